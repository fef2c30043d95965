/-! ===== 30.X12, goes on ===== -/
-- ===== StreamFuserModel.savesBy(I)I =====
abbrev tX12_savesBy : List (Nat × sf_E) := [(0, (.aload_n 0, 1, 0, .null, [], [])), (1, (.getfield 206, 4, 0, .null, [], [(10, 21)])), (4, (.ifCond .ne 6, 7, 10, .null, [], [])), (7, (.ldc 154, 9, 0, .int (-2147483648), [], [])), (9, (.ireturn, 10, 0, .null, [], [])), (10, (.aload_n 0, 11, 0, .null, [], [])), (11, (.getfield 206, 14, 0, .null, [], [(10, 21)])), (14, (.istore_n 2, 15, 0, .null, [], [])), (15, (.aload_n 0, 16, 0, .null, [], [])), (16, (.iconst 0, 17, 0, .int (0), [], [])), (17, (.iload_n 1, 18, 0, .null, [], [])), (18, (.invokevirtual 405, 21, 0, .null, [], [])), (21, (.aload_n 0, 22, 0, .null, [], [])), (22, (.getfield 303, 25, 0, .null, [], [(10, 37)])), (25, (.istore_n 3, 26, 0, .null, [], [])), (26, (.aload_n 0, 27, 0, .null, [], [])), (27, (.iconst 1, 28, 0, .int (1), [], [])), (28, (.iload_n 2, 29, 0, .null, [], [])), (29, (.invokevirtual 426, 32, 0, .null, [], [])), (32, (.aload_n 0, 33, 0, .null, [], [])), (33, (.iconst 0, 34, 0, .int (0), [], [])), (34, (.invokevirtual 286, 37, 0, .null, [], [])), (37, (.pop, 38, 0, .null, [], [])), (38, (.aload_n 0, 39, 0, .null, [], [])), (39, (.iconst 0, 40, 0, .int (0), [], [])), (40, (.iload_n 1, 41, 0, .null, [], [])), (41, (.invokevirtual 405, 44, 0, .null, [], [])), (44, (.aload_n 0, 45, 0, .null, [], [])), (45, (.iconst 0, 46, 0, .int (0), [], [])), (46, (.iload_n 2, 47, 0, .null, [], [])), (47, (.invokevirtual 426, 50, 0, .null, [], [])), (50, (.iload_n 3, 51, 0, .null, [], [])), (51, (.aload_n 0, 52, 0, .null, [], [])), (52, (.getfield 303, 55, 0, .null, [], [(10, 37)])), (55, (.isub, 56, 0, .null, [], [])), (56, (.ireturn, 57, 0, .null, [], []))]
noncomputable abbrev jX12_savesBy : List (Nat × sf_J (Int32 × sf_S)) := [(18, sf_jV sf_layM [10] 3 gX12_runs), (29, sf_jV sf_layM [10] 3 gX12_lays), (34, sf_jI sf_layM [10] 2 gX12_tidies), (41, sf_jV sf_layM [10] 3 gX12_runs), (47, sf_jV sf_layM [10] 3 gX12_lays)]
noncomputable def dX12_savesBy (x1 : Int32) (σ : sf_S) : Option (Int32 × sf_S) :=
  if ¬ (σ 0 21) = 0 then
    let v1 := (σ 0 21)
    (dX12_runs (0 : Int32) x1 σ).bind fun u2 =>
    let v3 := (u2 0 37)
    (dX12_lays (1 : Int32) v1 u2).bind fun u4 =>
    (dX12_tidies (0 : Int32) u4).bind fun u5 =>
    (dX12_runs (0 : Int32) x1 u5.2).bind fun u6 =>
    (dX12_lays (0 : Int32) v1 u6).bind fun u7 =>
    some ((v3 - (u7 0 37)), u7)
  else
    some ((-2147483648 : Int32), σ)
noncomputable abbrev gX12_savesBy (av : List Value) (σ : sf_S) : Option (Int32 × sf_S) := match av with
  | [.ref q, .int x1] => (match sf_rv [0] q with | true => dX12_savesBy x1 σ | false => none)
  | _ => none
set_option maxRecDepth 100000 in
set_option maxHeartbeats 4000000 in
theorem rX12_savesBy {Wt : Nat → sf_L → List Value → sf_S → Prop} {Post : (Int32 × sf_S) → Prop} (hs : sf_Snd Wt sf_layM sf_hI jX12_savesBy tX12_savesBy Post) (hm : sf_mono Wt) : ∀ av σ u, gX12_savesBy av σ = some u → Post u → (∀ ad, (lg_sl (av.map (sf_v ad))).length ≤ 4) ∧ Wt 0 (sf_ent 0 av) [] σ := by
  intro av σ u h hp
  unfold gX12_savesBy at h
  split at h
  · rename_i q x1
    split at h
    · rename_i hq
      have hq : q = 0 := by simpa using sf_rv_mem hq
      subst hq
      refine ⟨fun ad => Nat.le_of_ble_eq_true rfl, ?_⟩
      exact sf_run_ok hs sf_sm_nil 41 0 _ _ σ u h hp
    · cases h
  · cases h
theorem kX12_savesBy (l : Launch) : sf_C l sf_layM yX12_savesBy cX12_savesBy 4 (some .int) (sf_rm 7 245) (fun av σ => (gX12_savesBy av σ).map sf_vI) :=
  sf_met (tab := tX12_savesBy) (J := jX12_savesBy) (fl := sf_fl12) (cl := sf_cl12) (by decide +kernel) ⟨rfl, rfl⟩ sf_RH_I (by decide +kernel) sf_fl12_ok sf_cl12_ok
    (sf_JO_cons (sf_je_V (n := 3) (cs := [10]) (tv := sf_vV) (kX12_runs l) mwX12_runs (by decide +kernel : decode cX12_savesBy 18 = .ok (.invokevirtual 405, 3)) wt_1574 wt_1576 wt_111 (by decide +kernel) (by decide) (by decide) (List.forall_mem_cons.mpr ⟨⟨_, _, rfl⟩, fun _ h => absurd h List.not_mem_nil⟩) (sf_RM_of (by omega) (by omega))) (sf_JO_cons (sf_je_V (n := 3) (cs := [10]) (tv := sf_vV) (kX12_lays l) mwX12_lays (by decide +kernel : decode cX12_savesBy 29 = .ok (.invokevirtual 426, 3)) wt_1725 wt_1727 wt_140 (by decide +kernel) (by decide) (by decide) (List.forall_mem_cons.mpr ⟨⟨_, _, rfl⟩, fun _ h => absurd h List.not_mem_nil⟩) (sf_RM_of (by omega) (by omega))) (sf_JO_cons (sf_je_V (n := 2) (cs := [10]) (tv := sf_vI) (kX12_tidies l) mwX12_tidies (by decide +kernel : decode cX12_savesBy 34 = .ok (.invokevirtual 286, 3)) wt_1506 wt_1508 wt_99 (by decide +kernel) (by decide) (by decide) (List.forall_mem_cons.mpr ⟨⟨_, _, rfl⟩, fun _ h => absurd h List.not_mem_nil⟩) (sf_RM_of (by omega) (by omega))) (sf_JO_cons (sf_je_V (n := 3) (cs := [10]) (tv := sf_vV) (kX12_runs l) mwX12_runs (by decide +kernel : decode cX12_savesBy 41 = .ok (.invokevirtual 405, 3)) wt_1574 wt_1576 wt_111 (by decide +kernel) (by decide) (by decide) (List.forall_mem_cons.mpr ⟨⟨_, _, rfl⟩, fun _ h => absurd h List.not_mem_nil⟩) (sf_RM_of (by omega) (by omega))) (sf_JO_cons (sf_je_V (n := 3) (cs := [10]) (tv := sf_vV) (kX12_lays l) mwX12_lays (by decide +kernel : decode cX12_savesBy 47 = .ok (.invokevirtual 426, 3)) wt_1725 wt_1727 wt_140 (by decide +kernel) (by decide) (by decide) (List.forall_mem_cons.mpr ⟨⟨_, _, rfl⟩, fun _ h => absurd h List.not_mem_nil⟩) (sf_RM_of (by omega) (by omega))) (sf_JO_nil))))))
    (fun Wt Post hs hm => rX12_savesBy hs hm)
-- ===== StreamFuserModel.saves(I)I =====
abbrev tX12_saves : List (Nat × sf_E) := [(0, (.iload_n 1, 1, 0, .null, [], [])), (1, (.i2l, 2, 0, .null, [], [])), (2, (.lconst 0, 3, 0, .long 0, [], [])), (3, (.ldc2_w 400, 6, 0, .long (40), [], [])), (6, (.invokestatic 132, 9, 0, .null, [], [])), (9, (.ifCond .eq 11, 12, 20, .null, [], [])), (12, (.aload_n 0, 13, 0, .null, [], [])), (13, (.iload_n 1, 14, 0, .null, [], [])), (14, (.invokevirtual 430, 17, 0, .null, [], [])), (17, (.goto 5, 20, 22, .null, [], [])), (20, (.ldc 154, 22, 0, .int (-2147483648), [], [])), (22, (.ireturn, 23, 0, .null, [], []))]
noncomputable abbrev jX12_saves : List (Nat × sf_J (Int32 × sf_S)) := [(6, sf_jI sf_layM [] 3 gX12_in), (14, sf_jI sf_layM [10] 2 gX12_savesBy)]
noncomputable def dX12_saves (x1 : Int32) (σ : sf_S) : Option (Int32 × sf_S) :=
  (dX12_in x1.toInt64 (0 : Int64) (40 : Int64) σ).bind fun u1 =>
  if u1.1 = 0 then
    some ((-2147483648 : Int32), u1.2)
  else
    (dX12_savesBy x1 u1.2).bind fun u2 =>
    some (u2.1, u2.2)
noncomputable abbrev gX12_saves (av : List Value) (σ : sf_S) : Option (Int32 × sf_S) := match av with
  | [.ref q, .int x1] => (match sf_rv [0] q with | true => dX12_saves x1 σ | false => none)
  | _ => none
set_option maxRecDepth 100000 in
set_option maxHeartbeats 4000000 in
theorem rX12_saves {Wt : Nat → sf_L → List Value → sf_S → Prop} {Post : (Int32 × sf_S) → Prop} (hs : sf_Snd Wt sf_layM sf_hI jX12_saves tX12_saves Post) (hm : sf_mono Wt) : ∀ av σ u, gX12_saves av σ = some u → Post u → (∀ ad, (lg_sl (av.map (sf_v ad))).length ≤ 2) ∧ Wt 0 (sf_ent 0 av) [] σ := by
  intro av σ u h hp
  unfold gX12_saves at h
  split at h
  · rename_i q x1
    split at h
    · rename_i hq
      have hq : q = 0 := by simpa using sf_rv_mem hq
      subst hq
      refine ⟨fun ad => Nat.le_of_ble_eq_true rfl, ?_⟩
      exact sf_run_ok hs sf_sm_nil 17 0 _ _ σ u h hp
    · cases h
  · cases h
theorem kX12_saves (l : Launch) : sf_C l sf_layM yX12_saves cX12_saves 2 (some .int) (sf_rm 8 268) (fun av σ => (gX12_saves av σ).map sf_vI) :=
  sf_met (tab := tX12_saves) (J := jX12_saves) (fl := sf_fl12) (cl := sf_cl12) (by decide +kernel) ⟨rfl, rfl⟩ sf_RH_I (by decide +kernel) sf_fl12_ok sf_cl12_ok
    (sf_JO_cons (sf_je_S (n := 3) (tv := sf_vI) (kX12_in l) mwX12_in (by decide +kernel : decode cX12_saves 6 = .ok (.invokestatic 132, 3)) wt_1378 wt_1379 (by decide +kernel) (sf_RM_of (by omega) (by omega))) (sf_JO_cons (sf_je_V (n := 2) (cs := [10]) (tv := sf_vI) (kX12_savesBy l) mwX12_savesBy (by decide +kernel : decode cX12_saves 14 = .ok (.invokevirtual 430, 3)) wt_1721 wt_1723 wt_139 (by decide +kernel) (by decide) (by decide) (List.forall_mem_cons.mpr ⟨⟨_, _, rfl⟩, fun _ h => absurd h List.not_mem_nil⟩) (sf_RM_of (by omega) (by omega))) (sf_JO_nil)))
    (fun Wt Post hs hm => rX12_saves hs hm)
-- ===== StreamFuserModel.deepest()I =====
abbrev tX12_deepest : List (Nat × sf_E) := [(0, (.iconst (-1), 1, 0, .int (-1), [], [])), (1, (.istore_n 1, 2, 0, .null, [], [])), (2, (.iconst 0, 3, 0, .int (0), [], [])), (3, (.istore_n 2, 4, 0, .null, [], [])), (4, (.iload_n 2, 5, 0, .null, [], [])), (5, (.aload_n 0, 6, 0, .null, [], [])), (6, (.getfield 206, 9, 0, .null, [], [(10, 21)])), (9, (.if_icmp .ge 20, 12, 29, .null, [], [])), (12, (.iload_n 1, 13, 0, .null, [], [])), (13, (.aload_n 0, 14, 0, .null, [], [])), (14, (.getfield 61, 17, 0, .null, [], [(10, 25)])), (17, (.iload_n 2, 18, 0, .null, [], [])), (18, (.iaload, 19, 0, .null, [], [])), (19, (.invokestatic 266, 22, 0, .null, [], [])), (22, (.istore_n 1, 23, 0, .null, [], [])), (23, (.iinc 2 1, 26, 0, .int (1), [], [])), (26, (.goto (-22), 29, 4, .null, [], [])), (29, (.iload_n 1, 30, 0, .null, [], [])), (30, (.ireturn, 31, 0, .null, [], []))]
noncomputable abbrev jX12_deepest : List (Nat × sf_J (Int32 × sf_S)) := [(19, sf_jI sf_layM [] 2 gX12_greater)]
abbrev wX12_deepest_4 {ρ : Type} (k : Int32 → Int32 → sf_S → Option ρ) : sf_M ρ := fun L st σ => sf_lda L 0 fun a0 => sf_eq a0 0 (sf_ldi L 1 fun x1 => sf_ldi L 2 fun x2 => sf_nil st (k x1 x2 σ))
theorem wX12_deepest_4_ok {ρ : Type} {Wt : Nat → sf_L → List Value → sf_S → Prop} {Post : ρ → Prop} (hm : sf_mono Wt) {k : Int32 → Int32 → sf_S → Option ρ} (h : ∀ (x1 : Int32) (x2 : Int32) (σ : sf_S) (u : ρ), k x1 x2 σ = some u → Post u → Wt 4 [(0, some (.ref 0)), (1, some (.int x1)), (2, some (.int x2))] [] σ) : sf_CK Wt Post 4 (wX12_deepest_4 k) := by
  intro L st σ u hf hp
  unfold wX12_deepest_4 at hf
  have hf0 := hf
  obtain ⟨a0, e0, hf1⟩ := sf_lda_inv hf0
  obtain ⟨rfl, hf2⟩ := sf_eq_inv hf1
  obtain ⟨x1, e1, hf3⟩ := sf_ldi_inv hf2
  obtain ⟨x2, e2, hf4⟩ := sf_ldi_inv hf3
  obtain ⟨rfl, hz⟩ := sf_nil_inv hf4
  exact hm _ [(0, some (.ref _)), (1, some (.int x1)), (2, some (.int x2))] _ _ _ (sf_le_ok (And.intro e0 (And.intro e1 (And.intro e2 trivial)))) (h _ _ _ _ hz hp)
noncomputable def dX12_deepest_4 : Nat → Int32 → Int32 → sf_S → Option (Int32 × sf_S)
  | 0 => fun _ _ _ => none
  | n + 1 => fun x1 x2 σ =>
    if (σ 0 21) ≤ x2 then
      some (x1, σ)
    else
      if sf_in x2 40 then
        (dX12_greater x1 (σ 18 x2.toNatClampNeg) σ).bind fun u1 =>
        dX12_deepest_4 n u1.1 (x2 + (1 : Int32)) u1.2
      else
        none
set_option maxRecDepth 100000 in
set_option maxHeartbeats 4000000 in
theorem rX12_deepest_4 {Wt : Nat → sf_L → List Value → sf_S → Prop} {Post : (Int32 × sf_S) → Prop} (hs : sf_Snd Wt sf_layM sf_hI jX12_deepest tX12_deepest Post) (hm : sf_mono Wt) : ∀ n : Nat, sf_CK Wt Post 4 (wX12_deepest_4 (dX12_deepest_4 n)) := by
  intro n
  induction n with
  | zero => exact wX12_deepest_4_ok hm (fun x1 x2 σ u h _ => by simp [dX12_deepest_4] at h)
  | succ n ih =>
    refine wX12_deepest_4_ok hm ?_
    intro x1 x2 σ u h hp
    exact sf_run_ok hs (sf_sm_cons ih sf_sm_nil) 24 4 _ _ σ u h hp
noncomputable def dX12_deepest (σ : sf_S) : Option (Int32 × sf_S) :=
  dX12_deepest_4 sf_F (-1 : Int32) (0 : Int32) σ
noncomputable abbrev gX12_deepest (av : List Value) (σ : sf_S) : Option (Int32 × sf_S) := match av with
  | [.ref q] => (match sf_rv [0] q with | true => dX12_deepest σ | false => none)
  | _ => none
set_option maxRecDepth 100000 in
set_option maxHeartbeats 4000000 in
theorem rX12_deepest {Wt : Nat → sf_L → List Value → sf_S → Prop} {Post : (Int32 × sf_S) → Prop} (hs : sf_Snd Wt sf_layM sf_hI jX12_deepest tX12_deepest Post) (hm : sf_mono Wt) : ∀ av σ u, gX12_deepest av σ = some u → Post u → (∀ ad, (lg_sl (av.map (sf_v ad))).length ≤ 3) ∧ Wt 0 (sf_ent 0 av) [] σ := by
  intro av σ u h hp
  unfold gX12_deepest at h
  split at h
  · rename_i q
    split at h
    · rename_i hq
      have hq : q = 0 := by simpa using sf_rv_mem hq
      subst hq
      refine ⟨fun ad => Nat.le_of_ble_eq_true rfl, ?_⟩
      exact sf_run_ok hs (sf_sm_cons (rX12_deepest_4 hs hm sf_F) sf_sm_nil) 24 0 _ _ σ u h hp
    · cases h
  · cases h
theorem kX12_deepest (l : Launch) : sf_C l sf_layM yX12_deepest cX12_deepest 3 (some .int) (sf_rm 2 121) (fun av σ => (gX12_deepest av σ).map sf_vI) :=
  sf_met (tab := tX12_deepest) (J := jX12_deepest) (fl := sf_fl12) (cl := sf_cl12) (by decide +kernel) ⟨rfl, rfl⟩ sf_RH_I (by decide +kernel) sf_fl12_ok sf_cl12_ok
    (sf_JO_cons (sf_je_S (n := 2) (tv := sf_vI) (kX12_greater l) mwX12_greater (by decide +kernel : decode cX12_deepest 19 = .ok (.invokestatic 266, 3)) wt_1549 wt_1550 (by decide +kernel) (sf_RM_of (by omega) (by omega))) (sf_JO_nil))
    (fun Wt Post hs hm => rX12_deepest hs hm)
-- ===== StreamFuserModel.count(I)I =====
abbrev tX12_count : List (Nat × sf_E) := [(0, (.iload_n 1, 1, 0, .null, [], [])), (1, (.tableswitch 102 0 8 #[51, 56, 61, 66, 73, 80, 87, 92, 97], 52, 103, .null, [((0), 52), ((1), 57), ((2), 62), ((3), 67), ((4), 74), ((5), 81), ((6), 88), ((7), 93), ((8), 98)], [])), (52, (.aload_n 0, 53, 0, .null, [], [])), (53, (.getfield 206, 56, 0, .null, [], [(10, 21)])), (56, (.ireturn, 57, 0, .null, [], [])), (57, (.aload_n 0, 58, 0, .null, [], [])), (58, (.getfield 157, 61, 0, .null, [], [(10, 6)])), (61, (.ireturn, 62, 0, .null, [], [])), (62, (.aload_n 0, 63, 0, .null, [], [])), (63, (.getfield 408, 66, 0, .null, [], [(10, 55)])), (66, (.ireturn, 67, 0, .null, [], [])), (67, (.aload_n 0, 68, 0, .null, [], [])), (68, (.getfield 109, 71, 0, .null, [], [(10, 53)])), (71, (.iconst 0, 72, 0, .int (0), [], [])), (72, (.iaload, 73, 0, .null, [], [])), (73, (.ireturn, 74, 0, .null, [], [])), (74, (.aload_n 0, 75, 0, .null, [], [])), (75, (.getfield 109, 78, 0, .null, [], [(10, 53)])), (78, (.iconst 5, 79, 0, .int (5), [], [])), (79, (.iaload, 80, 0, .null, [], [])), (80, (.ireturn, 81, 0, .null, [], [])), (81, (.aload_n 0, 82, 0, .null, [], [])), (82, (.getfield 109, 85, 0, .null, [], [(10, 53)])), (85, (.iconst 2, 86, 0, .int (2), [], [])), (86, (.iaload, 87, 0, .null, [], [])), (87, (.ireturn, 88, 0, .null, [], [])), (88, (.aload_n 0, 89, 0, .null, [], [])), (89, (.getfield 289, 92, 0, .null, [], [(10, 32)])), (92, (.ireturn, 93, 0, .null, [], [])), (93, (.aload_n 0, 94, 0, .null, [], [])), (94, (.invokevirtual 433, 97, 0, .null, [], [])), (97, (.ireturn, 98, 0, .null, [], [])), (98, (.aload_n 0, 99, 0, .null, [], [])), (99, (.getfield 126, 102, 0, .null, [], [(10, 4)])), (102, (.ireturn, 103, 0, .null, [], [])), (103, (.bipush (-2), 105, 0, .int (-2), [], [])), (105, (.ireturn, 106, 0, .null, [], []))]
noncomputable abbrev jX12_count : List (Nat × sf_J (Int32 × sf_S)) := [(94, sf_jI sf_layM [10] 1 gX12_deepest)]
noncomputable def dX12_count (x1 : Int32) (σ : sf_S) : Option (Int32 × sf_S) :=
  if x1 = (0 : Int32) then
    some ((σ 0 21), σ)
  else
  if x1 = (1 : Int32) then
    some ((σ 0 6), σ)
  else
  if x1 = (2 : Int32) then
    some ((σ 0 55), σ)
  else
  if x1 = (3 : Int32) then
    if sf_in (0 : Int32) 6 then
      some ((σ 34 ((0 : Int32)).toNatClampNeg), σ)
    else
      none
  else
  if x1 = (4 : Int32) then
    if sf_in (5 : Int32) 6 then
      some ((σ 34 ((5 : Int32)).toNatClampNeg), σ)
    else
      none
  else
  if x1 = (5 : Int32) then
    if sf_in (2 : Int32) 6 then
      some ((σ 34 ((2 : Int32)).toNatClampNeg), σ)
    else
      none
  else
  if x1 = (6 : Int32) then
    some ((σ 0 32), σ)
  else
  if x1 = (7 : Int32) then
    (dX12_deepest σ).bind fun u1 =>
    some (u1.1, u1.2)
  else
  if x1 = (8 : Int32) then
    some ((σ 0 4), σ)
  else
    some ((-2 : Int32), σ)
noncomputable abbrev gX12_count (av : List Value) (σ : sf_S) : Option (Int32 × sf_S) := match av with
  | [.ref q, .int x1] => (match sf_rv [0] q with | true => dX12_count x1 σ | false => none)
  | _ => none
set_option maxRecDepth 100000 in
set_option maxHeartbeats 4000000 in
theorem rX12_count {Wt : Nat → sf_L → List Value → sf_S → Prop} {Post : (Int32 × sf_S) → Prop} (hs : sf_Snd Wt sf_layM sf_hI jX12_count tX12_count Post) (hm : sf_mono Wt) : ∀ av σ u, gX12_count av σ = some u → Post u → (∀ ad, (lg_sl (av.map (sf_v ad))).length ≤ 2) ∧ Wt 0 (sf_ent 0 av) [] σ := by
  intro av σ u h hp
  unfold gX12_count at h
  split at h
  · rename_i q x1
    split at h
    · rename_i hq
      have hq : q = 0 := by simpa using sf_rv_mem hq
      subst hq
      refine ⟨fun ad => Nat.le_of_ble_eq_true rfl, ?_⟩
      exact sf_run_ok hs sf_sm_nil 42 0 _ _ σ u h hp
    · cases h
  · cases h
theorem kX12_count (l : Launch) : sf_C l sf_layM yX12_count cX12_count 2 (some .int) (sf_rm 3 143) (fun av σ => (gX12_count av σ).map sf_vI) :=
  sf_met (tab := tX12_count) (J := jX12_count) (fl := sf_fl12) (cl := sf_cl12) (by decide +kernel) ⟨rfl, rfl⟩ sf_RH_I (by decide +kernel) sf_fl12_ok sf_cl12_ok
    (sf_JO_cons (sf_je_V (n := 1) (cs := [10]) (tv := sf_vI) (kX12_deepest l) mwX12_deepest (by decide +kernel : decode cX12_count 94 = .ok (.invokevirtual 433, 3)) wt_1733 wt_1735 wt_141 (by decide +kernel) (by decide) (by decide) (List.forall_mem_cons.mpr ⟨⟨_, _, rfl⟩, fun _ h => absurd h List.not_mem_nil⟩) (sf_RM_of (by omega) (by omega))) (sf_JO_nil))
    (fun Wt Post hs hm => rX12_count hs hm)
-- ===== StreamFuserModel.planTells(J)J =====
abbrev tX12_planTells : List (Nat × sf_E) := [(0, (.lload_n 1, 1, 0, .null, [], [])), (1, (.lstore_n 3, 2, 0, .null, [], [])), (2, (.iconst 0, 3, 0, .int (0), [], [])), (3, (.istore 5, 5, 0, .null, [], [])), (5, (.iload 5, 7, 0, .null, [], [])), (7, (.aload_n 0, 8, 0, .null, [], [])), (8, (.getfield 206, 11, 0, .null, [], [(10, 21)])), (11, (.if_icmp .ge 41, 14, 52, .null, [], [])), (14, (.iconst 0, 15, 0, .int (0), [], [])), (15, (.istore 6, 17, 0, .null, [], [])), (17, (.iload 6, 19, 0, .null, [], [])), (19, (.bipush 6, 21, 0, .int (6), [], [])), (21, (.if_icmp .ge 25, 24, 46, .null, [], [])), (24, (.ldc2_w 436, 27, 0, .long (31), [], [])), (27, (.lload_n 3, 28, 0, .null, [], [])), (28, (.lmul, 29, 0, .null, [], [])), (29, (.aload_n 0, 30, 0, .null, [], [])), (30, (.iload 5, 32, 0, .null, [], [])), (32, (.iload 6, 34, 0, .null, [], [])), (34, (.invokevirtual 221, 37, 0, .null, [], [])), (37, (.i2l, 38, 0, .null, [], [])), (38, (.ladd, 39, 0, .null, [], [])), (39, (.lstore_n 3, 40, 0, .null, [], [])), (40, (.iinc 6 1, 43, 0, .int (1), [], [])), (43, (.goto (-26), 46, 17, .null, [], [])), (46, (.iinc 5 1, 49, 0, .int (1), [], [])), (49, (.goto (-44), 52, 5, .null, [], [])), (52, (.aload_n 0, 53, 0, .null, [], [])), (53, (.invokevirtual 238, 56, 0, .null, [], [])), (56, (.iconst (-1), 57, 0, .int (-1), [], [])), (57, (.istore 5, 59, 0, .null, [], [])), (59, (.iload 5, 61, 0, .null, [], [])), (61, (.aload_n 0, 62, 0, .null, [], [])), (62, (.getfield 206, 65, 0, .null, [], [(10, 21)])), (65, (.ifCond .ne 7, 68, 72, .null, [], [])), (68, (.iconst 0, 69, 0, .int (0), [], [])), (69, (.goto 7, 72, 76, .null, [], [])), (72, (.aload_n 0, 73, 0, .null, [], [])), (73, (.getfield 224, 76, 0, .null, [], [(10, 29)])), (76, (.if_icmp .ge 23, 79, 99, .null, [], [])), (79, (.ldc2_w 436, 82, 0, .long (31), [], [])), (82, (.lload_n 3, 83, 0, .null, [], [])), (83, (.lmul, 84, 0, .null, [], [])), (84, (.aload_n 0, 85, 0, .null, [], [])), (85, (.iload 5, 87, 0, .null, [], [])), (87, (.invokevirtual 241, 90, 0, .null, [], [])), (90, (.i2l, 91, 0, .null, [], [])), (91, (.ladd, 92, 0, .null, [], [])), (92, (.lstore_n 3, 93, 0, .null, [], [])), (93, (.iinc 5 1, 96, 0, .int (1), [], [])), (96, (.goto (-37), 99, 59, .null, [], [])), (99, (.iconst 0, 100, 0, .int (0), [], [])), (100, (.istore 5, 102, 0, .null, [], [])), (102, (.iload 5, 104, 0, .null, [], [])), (104, (.bipush 13, 106, 0, .int (13), [], [])), (106, (.if_icmp .ge 24, 109, 130, .null, [], [])), (109, (.ldc2_w 436, 112, 0, .long (31), [], [])), (112, (.lload_n 3, 113, 0, .null, [], [])), (113, (.lmul, 114, 0, .null, [], [])), (114, (.aload_n 0, 115, 0, .null, [], [])), (115, (.getfield 76, 118, 0, .null, [], [(10, 31)])), (118, (.iload 5, 120, 0, .null, [], [])), (120, (.iaload, 121, 0, .null, [], [])), (121, (.i2l, 122, 0, .null, [], [])), (122, (.ladd, 123, 0, .null, [], [])), (123, (.lstore_n 3, 124, 0, .null, [], [])), (124, (.iinc 5 1, 127, 0, .int (1), [], [])), (127, (.goto (-25), 130, 102, .null, [], [])), (130, (.lload_n 3, 131, 0, .null, [], [])), (131, (.lreturn, 132, 0, .null, [], []))]
noncomputable abbrev jX12_planTells : List (Nat × sf_J (Int64 × sf_S)) := [(34, sf_jI sf_layM [10] 3 gX12_nodeBy), (53, sf_jV sf_layM [10] 1 gX12_writesPlan), (87, sf_jI sf_layM [10] 2 gX12_textBy)]
abbrev wX12_planTells_102 {ρ : Type} (k : Int64 → Int32 → sf_S → Option ρ) : sf_M ρ := fun L st σ => sf_lda L 0 fun a0 => sf_eq a0 0 (sf_ldl L 3 fun x3 => sf_ldi L 5 fun x5 => sf_nil st (k x3 x5 σ))
theorem wX12_planTells_102_ok {ρ : Type} {Wt : Nat → sf_L → List Value → sf_S → Prop} {Post : ρ → Prop} (hm : sf_mono Wt) {k : Int64 → Int32 → sf_S → Option ρ} (h : ∀ (x3 : Int64) (x5 : Int32) (σ : sf_S) (u : ρ), k x3 x5 σ = some u → Post u → Wt 102 [(0, some (.ref 0)), (3, some (.long x3)), (5, some (.int x5))] [] σ) : sf_CK Wt Post 102 (wX12_planTells_102 k) := by
  intro L st σ u hf hp
  unfold wX12_planTells_102 at hf
  have hf0 := hf
  obtain ⟨a0, e0, hf1⟩ := sf_lda_inv hf0
  obtain ⟨rfl, hf2⟩ := sf_eq_inv hf1
  obtain ⟨x3, e3, hf3⟩ := sf_ldl_inv hf2
  obtain ⟨x5, e5, hf4⟩ := sf_ldi_inv hf3
  obtain ⟨rfl, hz⟩ := sf_nil_inv hf4
  exact hm _ [(0, some (.ref _)), (3, some (.long x3)), (5, some (.int x5))] _ _ _ (sf_le_ok (And.intro e0 (And.intro e3 (And.intro e5 trivial)))) (h _ _ _ _ hz hp)
abbrev wX12_planTells_76 {ρ : Type} (k : Int64 → Int32 → Int32 → Int32 → sf_S → Option ρ) : sf_M ρ := fun L st σ => sf_lda L 0 fun a0 => sf_eq a0 0 (sf_ldl L 3 fun x3 => sf_ldi L 5 fun x5 => sf_i1 st fun y0 st => sf_i1 st fun y1 st => sf_nil st (k x3 x5 y0 y1 σ))
theorem wX12_planTells_76_ok {ρ : Type} {Wt : Nat → sf_L → List Value → sf_S → Prop} {Post : ρ → Prop} (hm : sf_mono Wt) {k : Int64 → Int32 → Int32 → Int32 → sf_S → Option ρ} (h : ∀ (x3 : Int64) (x5 : Int32) (y0 : Int32) (y1 : Int32) (σ : sf_S) (u : ρ), k x3 x5 y0 y1 σ = some u → Post u → Wt 76 [(0, some (.ref 0)), (3, some (.long x3)), (5, some (.int x5))] [.int y0, .int y1] σ) : sf_CK Wt Post 76 (wX12_planTells_76 k) := by
  intro L st σ u hf hp
  unfold wX12_planTells_76 at hf
  have hf0 := hf
  obtain ⟨a0, e0, hf1⟩ := sf_lda_inv hf0
  obtain ⟨rfl, hf2⟩ := sf_eq_inv hf1
  obtain ⟨x3, e3, hf3⟩ := sf_ldl_inv hf2
  obtain ⟨x5, e5, hf4⟩ := sf_ldi_inv hf3
  obtain ⟨y0, st, rfl, hf5⟩ := sf_i1_inv hf4
  obtain ⟨y1, st, rfl, hf6⟩ := sf_i1_inv hf5
  obtain ⟨rfl, hz⟩ := sf_nil_inv hf6
  exact hm _ [(0, some (.ref _)), (3, some (.long x3)), (5, some (.int x5))] _ _ _ (sf_le_ok (And.intro e0 (And.intro e3 (And.intro e5 trivial)))) (h _ _ _ _ _ _ hz hp)
abbrev wX12_planTells_59 {ρ : Type} (k : Int64 → Int32 → sf_S → Option ρ) : sf_M ρ := fun L st σ => sf_lda L 0 fun a0 => sf_eq a0 0 (sf_ldl L 3 fun x3 => sf_ldi L 5 fun x5 => sf_nil st (k x3 x5 σ))
theorem wX12_planTells_59_ok {ρ : Type} {Wt : Nat → sf_L → List Value → sf_S → Prop} {Post : ρ → Prop} (hm : sf_mono Wt) {k : Int64 → Int32 → sf_S → Option ρ} (h : ∀ (x3 : Int64) (x5 : Int32) (σ : sf_S) (u : ρ), k x3 x5 σ = some u → Post u → Wt 59 [(0, some (.ref 0)), (3, some (.long x3)), (5, some (.int x5))] [] σ) : sf_CK Wt Post 59 (wX12_planTells_59 k) := by
  intro L st σ u hf hp
  unfold wX12_planTells_59 at hf
  have hf0 := hf
  obtain ⟨a0, e0, hf1⟩ := sf_lda_inv hf0
  obtain ⟨rfl, hf2⟩ := sf_eq_inv hf1
  obtain ⟨x3, e3, hf3⟩ := sf_ldl_inv hf2
  obtain ⟨x5, e5, hf4⟩ := sf_ldi_inv hf3
  obtain ⟨rfl, hz⟩ := sf_nil_inv hf4
  exact hm _ [(0, some (.ref _)), (3, some (.long x3)), (5, some (.int x5))] _ _ _ (sf_le_ok (And.intro e0 (And.intro e3 (And.intro e5 trivial)))) (h _ _ _ _ hz hp)
abbrev wX12_planTells_17 {ρ : Type} (k : Int64 → Int32 → Int32 → sf_S → Option ρ) : sf_M ρ := fun L st σ => sf_lda L 0 fun a0 => sf_eq a0 0 (sf_ldl L 3 fun x3 => sf_ldi L 5 fun x5 => sf_ldi L 6 fun x6 => sf_nil st (k x3 x5 x6 σ))
theorem wX12_planTells_17_ok {ρ : Type} {Wt : Nat → sf_L → List Value → sf_S → Prop} {Post : ρ → Prop} (hm : sf_mono Wt) {k : Int64 → Int32 → Int32 → sf_S → Option ρ} (h : ∀ (x3 : Int64) (x5 : Int32) (x6 : Int32) (σ : sf_S) (u : ρ), k x3 x5 x6 σ = some u → Post u → Wt 17 [(0, some (.ref 0)), (3, some (.long x3)), (5, some (.int x5)), (6, some (.int x6))] [] σ) : sf_CK Wt Post 17 (wX12_planTells_17 k) := by
  intro L st σ u hf hp
  unfold wX12_planTells_17 at hf
  have hf0 := hf
  obtain ⟨a0, e0, hf1⟩ := sf_lda_inv hf0
  obtain ⟨rfl, hf2⟩ := sf_eq_inv hf1
  obtain ⟨x3, e3, hf3⟩ := sf_ldl_inv hf2
  obtain ⟨x5, e5, hf4⟩ := sf_ldi_inv hf3
  obtain ⟨x6, e6, hf5⟩ := sf_ldi_inv hf4
  obtain ⟨rfl, hz⟩ := sf_nil_inv hf5
  exact hm _ [(0, some (.ref _)), (3, some (.long x3)), (5, some (.int x5)), (6, some (.int x6))] _ _ _ (sf_le_ok (And.intro e0 (And.intro e3 (And.intro e5 (And.intro e6 trivial))))) (h _ _ _ _ _ hz hp)
abbrev wX12_planTells_5 {ρ : Type} (k : Int64 → Int32 → sf_S → Option ρ) : sf_M ρ := fun L st σ => sf_lda L 0 fun a0 => sf_eq a0 0 (sf_ldl L 3 fun x3 => sf_ldi L 5 fun x5 => sf_nil st (k x3 x5 σ))
theorem wX12_planTells_5_ok {ρ : Type} {Wt : Nat → sf_L → List Value → sf_S → Prop} {Post : ρ → Prop} (hm : sf_mono Wt) {k : Int64 → Int32 → sf_S → Option ρ} (h : ∀ (x3 : Int64) (x5 : Int32) (σ : sf_S) (u : ρ), k x3 x5 σ = some u → Post u → Wt 5 [(0, some (.ref 0)), (3, some (.long x3)), (5, some (.int x5))] [] σ) : sf_CK Wt Post 5 (wX12_planTells_5 k) := by
  intro L st σ u hf hp
  unfold wX12_planTells_5 at hf
  have hf0 := hf
  obtain ⟨a0, e0, hf1⟩ := sf_lda_inv hf0
  obtain ⟨rfl, hf2⟩ := sf_eq_inv hf1
  obtain ⟨x3, e3, hf3⟩ := sf_ldl_inv hf2
  obtain ⟨x5, e5, hf4⟩ := sf_ldi_inv hf3
  obtain ⟨rfl, hz⟩ := sf_nil_inv hf4
  exact hm _ [(0, some (.ref _)), (3, some (.long x3)), (5, some (.int x5))] _ _ _ (sf_le_ok (And.intro e0 (And.intro e3 (And.intro e5 trivial)))) (h _ _ _ _ hz hp)
noncomputable def dX12_planTells_102 : Nat → Int64 → Int32 → sf_S → Option (Int64 × sf_S)
  | 0 => fun _ _ _ => none
  | n + 1 => fun x3 x5 σ =>
    if (13 : Int32) ≤ x5 then
      some (x3, σ)
    else
      if sf_in x5 13 then
        let v1 := (((31 : Int64) * x3) + ((σ 23 x5.toNatClampNeg)).toInt64)
        dX12_planTells_102 n v1 (x5 + (1 : Int32)) σ
      else
        none
set_option maxRecDepth 100000 in
set_option maxHeartbeats 4000000 in
theorem rX12_planTells_102 {Wt : Nat → sf_L → List Value → sf_S → Prop} {Post : (Int64 × sf_S) → Prop} (hs : sf_Snd Wt sf_layM sf_hL jX12_planTells tX12_planTells Post) (hm : sf_mono Wt) : ∀ n : Nat, sf_CK Wt Post 102 (wX12_planTells_102 (dX12_planTells_102 n)) := by
  intro n
  induction n with
  | zero => exact wX12_planTells_102_ok hm (fun x3 x5 σ u h _ => by simp [dX12_planTells_102] at h)
  | succ n ih =>
    refine wX12_planTells_102_ok hm ?_
    intro x3 x5 σ u h hp
    exact sf_run_ok hs (sf_sm_cons ih sf_sm_nil) 75 102 _ _ σ u h hp
noncomputable def dX12_planTells_76 (K59 : Int64 → Int32 → sf_S → Option (Int64 × sf_S)) (x3 : Int64) (x5 : Int32) (y0 : Int32) (y1 : Int32) (σ : sf_S) : Option (Int64 × sf_S) :=
  if y0 ≤ y1 then
    dX12_planTells_102 sf_F x3 (0 : Int32) σ
  else
    (dX12_textBy x5 σ).bind fun u1 =>
    let v2 := (((31 : Int64) * x3) + u1.1.toInt64)
    K59 v2 (x5 + (1 : Int32)) u1.2
set_option maxRecDepth 100000 in
set_option maxHeartbeats 4000000 in
theorem rX12_planTells_76 {Wt : Nat → sf_L → List Value → sf_S → Prop} {Post : (Int64 × sf_S) → Prop} (hs : sf_Snd Wt sf_layM sf_hL jX12_planTells tX12_planTells Post) (hm : sf_mono Wt) {K59 : Int64 → Int32 → sf_S → Option (Int64 × sf_S)} (hK59 : sf_CK Wt Post 59 (wX12_planTells_59 K59)) : sf_CK Wt Post 76 (wX12_planTells_76 (dX12_planTells_76 K59)) := by
  refine wX12_planTells_76_ok hm ?_
  intro x3 x5 y0 y1 σ u h hp
  exact sf_run_ok hs (sf_sm_cons hK59 (sf_sm_cons (rX12_planTells_102 hs hm sf_F) sf_sm_nil)) 75 76 _ _ σ u h hp
noncomputable def dX12_planTells_59 : Nat → Int64 → Int32 → sf_S → Option (Int64 × sf_S)
  | 0 => fun _ _ _ => none
  | n + 1 => fun x3 x5 σ =>
    if ¬ (σ 0 21) = 0 then
      dX12_planTells_76 (dX12_planTells_59 n) x3 x5 (σ 0 29) x5 σ
    else
      dX12_planTells_76 (dX12_planTells_59 n) x3 x5 (0 : Int32) x5 σ
set_option maxRecDepth 100000 in
set_option maxHeartbeats 4000000 in
theorem rX12_planTells_59 {Wt : Nat → sf_L → List Value → sf_S → Prop} {Post : (Int64 × sf_S) → Prop} (hs : sf_Snd Wt sf_layM sf_hL jX12_planTells tX12_planTells Post) (hm : sf_mono Wt) : ∀ n : Nat, sf_CK Wt Post 59 (wX12_planTells_59 (dX12_planTells_59 n)) := by
  intro n
  induction n with
  | zero => exact wX12_planTells_59_ok hm (fun x3 x5 σ u h _ => by simp [dX12_planTells_59] at h)
  | succ n ih =>
    refine wX12_planTells_59_ok hm ?_
    intro x3 x5 σ u h hp
    exact sf_run_ok hs (sf_sm_cons (rX12_planTells_76 hs hm ih) sf_sm_nil) 75 59 _ _ σ u h hp
noncomputable def dX12_planTells_17 (K5 : Int64 → Int32 → sf_S → Option (Int64 × sf_S)) : Nat → Int64 → Int32 → Int32 → sf_S → Option (Int64 × sf_S)
  | 0 => fun _ _ _ _ => none
  | n + 1 => fun x3 x5 x6 σ =>
    if (6 : Int32) ≤ x6 then
      K5 x3 (x5 + (1 : Int32)) σ
    else
      (dX12_nodeBy x5 x6 σ).bind fun u1 =>
      let v2 := (((31 : Int64) * x3) + u1.1.toInt64)
      dX12_planTells_17 K5 n v2 x5 (x6 + (1 : Int32)) u1.2
set_option maxRecDepth 100000 in
set_option maxHeartbeats 4000000 in
theorem rX12_planTells_17 {Wt : Nat → sf_L → List Value → sf_S → Prop} {Post : (Int64 × sf_S) → Prop} (hs : sf_Snd Wt sf_layM sf_hL jX12_planTells tX12_planTells Post) (hm : sf_mono Wt) {K5 : Int64 → Int32 → sf_S → Option (Int64 × sf_S)} (hK5 : sf_CK Wt Post 5 (wX12_planTells_5 K5)) : ∀ n : Nat, sf_CK Wt Post 17 (wX12_planTells_17 (dX12_planTells_17 K5 n)) := by
  intro n
  induction n with
  | zero => exact wX12_planTells_17_ok hm (fun x3 x5 x6 σ u h _ => by simp [dX12_planTells_17] at h)
  | succ n ih =>
    refine wX12_planTells_17_ok hm ?_
    intro x3 x5 x6 σ u h hp
    exact sf_run_ok hs (sf_sm_cons hK5 (sf_sm_cons ih sf_sm_nil)) 75 17 _ _ σ u h hp
noncomputable def dX12_planTells_5 : Nat → Int64 → Int32 → sf_S → Option (Int64 × sf_S)
  | 0 => fun _ _ _ => none
  | n + 1 => fun x3 x5 σ =>
    if (σ 0 21) ≤ x5 then
      (dX12_writesPlan σ).bind fun u1 =>
      dX12_planTells_59 sf_F x3 (-1 : Int32) u1
    else
      dX12_planTells_17 (dX12_planTells_5 n) sf_F x3 x5 (0 : Int32) σ
set_option maxRecDepth 100000 in
set_option maxHeartbeats 4000000 in
theorem rX12_planTells_5 {Wt : Nat → sf_L → List Value → sf_S → Prop} {Post : (Int64 × sf_S) → Prop} (hs : sf_Snd Wt sf_layM sf_hL jX12_planTells tX12_planTells Post) (hm : sf_mono Wt) : ∀ n : Nat, sf_CK Wt Post 5 (wX12_planTells_5 (dX12_planTells_5 n)) := by
  intro n
  induction n with
  | zero => exact wX12_planTells_5_ok hm (fun x3 x5 σ u h _ => by simp [dX12_planTells_5] at h)
  | succ n ih =>
    refine wX12_planTells_5_ok hm ?_
    intro x3 x5 σ u h hp
    exact sf_run_ok hs (sf_sm_cons (rX12_planTells_17 hs hm ih sf_F) (sf_sm_cons (rX12_planTells_59 hs hm sf_F) sf_sm_nil)) 75 5 _ _ σ u h hp
noncomputable def dX12_planTells (x1 : Int64) (σ : sf_S) : Option (Int64 × sf_S) :=
  dX12_planTells_5 sf_F x1 (0 : Int32) σ
noncomputable abbrev gX12_planTells (av : List Value) (σ : sf_S) : Option (Int64 × sf_S) := match av with
  | [.ref q, .long x1] => (match sf_rv [0] q with | true => dX12_planTells x1 σ | false => none)
  | _ => none
set_option maxRecDepth 100000 in
set_option maxHeartbeats 4000000 in
theorem rX12_planTells {Wt : Nat → sf_L → List Value → sf_S → Prop} {Post : (Int64 × sf_S) → Prop} (hs : sf_Snd Wt sf_layM sf_hL jX12_planTells tX12_planTells Post) (hm : sf_mono Wt) : ∀ av σ u, gX12_planTells av σ = some u → Post u → (∀ ad, (lg_sl (av.map (sf_v ad))).length ≤ 7) ∧ Wt 0 (sf_ent 0 av) [] σ := by
  intro av σ u h hp
  unfold gX12_planTells at h
  split at h
  · rename_i q x1
    split at h
    · rename_i hq
      have hq : q = 0 := by simpa using sf_rv_mem hq
      subst hq
      refine ⟨fun ad => Nat.le_of_ble_eq_true rfl, ?_⟩
      exact sf_run_ok hs (sf_sm_cons (rX12_planTells_5 hs hm sf_F) sf_sm_nil) 75 0 _ _ σ u h hp
    · cases h
  · cases h
theorem kX12_planTells (l : Launch) : sf_C l sf_layM yX12_planTells cX12_planTells 7 (some .long) (sf_rm 4 168) (fun av σ => (gX12_planTells av σ).map sf_vL) :=
  sf_met (tab := tX12_planTells) (J := jX12_planTells) (fl := sf_fl12) (cl := sf_cl12) (by decide +kernel) ⟨rfl, rfl⟩ sf_RH_L (by decide +kernel) sf_fl12_ok sf_cl12_ok
    (sf_JO_cons (sf_je_V (n := 3) (cs := [10]) (tv := sf_vI) (kX12_nodeBy l) mwX12_nodeBy (by decide +kernel : decode cX12_planTells 34 = .ok (.invokevirtual 221, 3)) wt_1470 wt_1472 wt_93 (by decide +kernel) (by decide) (by decide) (List.forall_mem_cons.mpr ⟨⟨_, _, rfl⟩, fun _ h => absurd h List.not_mem_nil⟩) (sf_RM_of (by omega) (by omega))) (sf_JO_cons (sf_je_V (n := 1) (cs := [10]) (tv := sf_vV) (kX12_writesPlan l) mwX12_writesPlan (by decide +kernel : decode cX12_planTells 53 = .ok (.invokevirtual 238, 3)) wt_1482 wt_1484 wt_95 (by decide +kernel) (by decide) (by decide) (List.forall_mem_cons.mpr ⟨⟨_, _, rfl⟩, fun _ h => absurd h List.not_mem_nil⟩) (sf_RM_of (by omega) (by omega))) (sf_JO_cons (sf_je_V (n := 2) (cs := [10]) (tv := sf_vI) (kX12_textBy l) mwX12_textBy (by decide +kernel : decode cX12_planTells 87 = .ok (.invokevirtual 241, 3)) wt_1498 wt_1500 wt_98 (by decide +kernel) (by decide) (by decide) (List.forall_mem_cons.mpr ⟨⟨_, _, rfl⟩, fun _ h => absurd h List.not_mem_nil⟩) (sf_RM_of (by omega) (by omega))) (sf_JO_nil))))
    (fun Wt Post hs hm => rX12_planTells hs hm)
-- ===== StreamFuserModel.digest()J =====
abbrev tX12_digest : List (Nat × sf_E) := [(0, (.ldc2_w 438, 3, 0, .long (17), [], [])), (3, (.lstore_n 1, 4, 0, .null, [], [])), (4, (.iconst 0, 5, 0, .int (0), [], [])), (5, (.istore_n 3, 6, 0, .null, [], [])), (6, (.iload_n 3, 7, 0, .null, [], [])), (7, (.bipush 8, 9, 0, .int (8), [], [])), (9, (.if_icmp .ge 22, 12, 31, .null, [], [])), (12, (.ldc2_w 436, 15, 0, .long (31), [], [])), (15, (.lload_n 1, 16, 0, .null, [], [])), (16, (.lmul, 17, 0, .null, [], [])), (17, (.aload_n 0, 18, 0, .null, [], [])), (18, (.iload_n 3, 19, 0, .null, [], [])), (19, (.invokevirtual 440, 22, 0, .null, [], [])), (22, (.i2l, 23, 0, .null, [], [])), (23, (.ladd, 24, 0, .null, [], [])), (24, (.lstore_n 1, 25, 0, .null, [], [])), (25, (.iinc 3 1, 28, 0, .int (1), [], [])), (28, (.goto (-22), 31, 6, .null, [], [])), (31, (.ldc2_w 436, 34, 0, .long (31), [], [])), (34, (.lload_n 1, 35, 0, .null, [], [])), (35, (.lmul, 36, 0, .null, [], [])), (36, (.aload_n 0, 37, 0, .null, [], [])), (37, (.invokevirtual 202, 40, 0, .null, [], [])), (40, (.i2l, 41, 0, .null, [], [])), (41, (.ladd, 42, 0, .null, [], [])), (42, (.lstore_n 1, 43, 0, .null, [], [])), (43, (.aload_n 0, 44, 0, .null, [], [])), (44, (.lload_n 1, 45, 0, .null, [], [])), (45, (.invokevirtual 443, 48, 0, .null, [], [])), (48, (.lstore_n 1, 49, 0, .null, [], [])), (49, (.iconst 0, 50, 0, .int (0), [], [])), (50, (.istore_n 3, 51, 0, .null, [], [])), (51, (.iload_n 3, 52, 0, .null, [], [])), (52, (.aload_n 0, 53, 0, .null, [], [])), (53, (.getfield 408, 56, 0, .null, [], [(10, 55)])), (56, (.if_icmp .ge 23, 59, 79, .null, [], [])), (59, (.ldc2_w 436, 62, 0, .long (31), [], [])), (62, (.lload_n 1, 63, 0, .null, [], [])), (63, (.lmul, 64, 0, .null, [], [])), (64, (.aload_n 0, 65, 0, .null, [], [])), (65, (.getfield 112, 68, 0, .null, [], [(10, 54)])), (68, (.iload_n 3, 69, 0, .null, [], [])), (69, (.iaload, 70, 0, .null, [], [])), (70, (.i2l, 71, 0, .null, [], [])), (71, (.ladd, 72, 0, .null, [], [])), (72, (.lstore_n 1, 73, 0, .null, [], [])), (73, (.iinc 3 1, 76, 0, .int (1), [], [])), (76, (.goto (-25), 79, 51, .null, [], [])), (79, (.iconst 0, 80, 0, .int (0), [], [])), (80, (.istore_n 3, 81, 0, .null, [], [])), (81, (.iload_n 3, 82, 0, .null, [], [])), (82, (.iconst 3, 83, 0, .int (3), [], [])), (83, (.if_icmp .ge 21, 86, 104, .null, [], [])), (86, (.ldc2_w 436, 89, 0, .long (31), [], [])), (89, (.lload_n 1, 90, 0, .null, [], [])), (90, (.lmul, 91, 0, .null, [], [])), (91, (.aload_n 0, 92, 0, .null, [], [])), (92, (.iload_n 3, 93, 0, .null, [], [])), (93, (.invokevirtual 416, 96, 0, .null, [], [])), (96, (.ladd, 97, 0, .null, [], [])), (97, (.lstore_n 1, 98, 0, .null, [], [])), (98, (.iinc 3 1, 101, 0, .int (1), [], [])), (101, (.goto (-20), 104, 81, .null, [], [])), (104, (.iconst 0, 105, 0, .int (0), [], [])), (105, (.istore_n 3, 106, 0, .null, [], [])), (106, (.iload_n 3, 107, 0, .null, [], [])), (107, (.bipush 6, 109, 0, .int (6), [], [])), (109, (.if_icmp .ge 23, 112, 132, .null, [], [])), (112, (.ldc2_w 436, 115, 0, .long (31), [], [])), (115, (.lload_n 1, 116, 0, .null, [], [])), (116, (.lmul, 117, 0, .null, [], [])), (117, (.aload_n 0, 118, 0, .null, [], [])), (118, (.getfield 109, 121, 0, .null, [], [(10, 53)])), (121, (.iload_n 3, 122, 0, .null, [], [])), (122, (.iaload, 123, 0, .null, [], [])), (123, (.i2l, 124, 0, .null, [], [])), (124, (.ladd, 125, 0, .null, [], [])), (125, (.lstore_n 1, 126, 0, .null, [], [])), (126, (.iinc 3 1, 129, 0, .int (1), [], [])), (129, (.goto (-23), 132, 106, .null, [], [])), (132, (.iconst 0, 133, 0, .int (0), [], [])), (133, (.istore_n 3, 134, 0, .null, [], [])), (134, (.iload_n 3, 135, 0, .null, [], [])), (135, (.aload_n 0, 136, 0, .null, [], [])), (136, (.invokevirtual 419, 139, 0, .null, [], [])), (139, (.if_icmp .ge 37, 142, 176, .null, [], [])), (142, (.ldc2_w 436, 145, 0, .long (31), [], [])), (145, (.lload_n 1, 146, 0, .null, [], [])), (146, (.lmul, 147, 0, .null, [], [])), (147, (.aload_n 0, 148, 0, .null, [], [])), (148, (.getfield 115, 151, 0, .null, [], [(10, 56)])), (151, (.iload_n 3, 152, 0, .null, [], [])), (152, (.iaload, 153, 0, .null, [], [])), (153, (.i2l, 154, 0, .null, [], [])), (154, (.ladd, 155, 0, .null, [], [])), (155, (.lstore_n 1, 156, 0, .null, [], [])), (156, (.ldc2_w 436, 159, 0, .long (31), [], [])), (159, (.lload_n 1, 160, 0, .null, [], [])), (160, (.lmul, 161, 0, .null, [], [])), (161, (.aload_n 0, 162, 0, .null, [], [])), (162, (.getfield 118, 165, 0, .null, [], [(10, 57)])), (165, (.iload_n 3, 166, 0, .null, [], [])), (166, (.iaload, 167, 0, .null, [], [])), (167, (.i2l, 168, 0, .null, [], [])), (168, (.ladd, 169, 0, .null, [], [])), (169, (.lstore_n 1, 170, 0, .null, [], [])), (170, (.iinc 3 1, 173, 0, .int (1), [], [])), (173, (.goto (-39), 176, 134, .null, [], [])), (176, (.ldc2_w 436, 179, 0, .long (31), [], [])), (179, (.lload_n 1, 180, 0, .null, [], [])), (180, (.lmul, 181, 0, .null, [], [])), (181, (.aload_n 0, 182, 0, .null, [], [])), (182, (.iconst 3, 183, 0, .int (3), [], [])), (183, (.invokevirtual 430, 186, 0, .null, [], [])), (186, (.i2l, 187, 0, .null, [], [])), (187, (.ladd, 188, 0, .null, [], [])), (188, (.lreturn, 189, 0, .null, [], []))]
noncomputable abbrev jX12_digest : List (Nat × sf_J (Int64 × sf_S)) := [(19, sf_jI sf_layM [10] 2 gX12_count), (37, sf_jI sf_layM [10] 1 gX12_faultNow), (45, sf_jL sf_layM [10] 2 gX12_planTells), (93, sf_jL sf_layM [10] 2 gX12_foldBy), (136, sf_jI sf_layM [10] 1 gX12_keptDown), (183, sf_jI sf_layM [10] 2 gX12_savesBy)]
abbrev wX12_digest_134 {ρ : Type} (k : Int64 → Int32 → sf_S → Option ρ) : sf_M ρ := fun L st σ => sf_lda L 0 fun a0 => sf_eq a0 0 (sf_ldl L 1 fun x1 => sf_ldi L 3 fun x3 => sf_nil st (k x1 x3 σ))
theorem wX12_digest_134_ok {ρ : Type} {Wt : Nat → sf_L → List Value → sf_S → Prop} {Post : ρ → Prop} (hm : sf_mono Wt) {k : Int64 → Int32 → sf_S → Option ρ} (h : ∀ (x1 : Int64) (x3 : Int32) (σ : sf_S) (u : ρ), k x1 x3 σ = some u → Post u → Wt 134 [(0, some (.ref 0)), (1, some (.long x1)), (3, some (.int x3))] [] σ) : sf_CK Wt Post 134 (wX12_digest_134 k) := by
  intro L st σ u hf hp
  unfold wX12_digest_134 at hf
  have hf0 := hf
  obtain ⟨a0, e0, hf1⟩ := sf_lda_inv hf0
  obtain ⟨rfl, hf2⟩ := sf_eq_inv hf1
  obtain ⟨x1, e1, hf3⟩ := sf_ldl_inv hf2
  obtain ⟨x3, e3, hf4⟩ := sf_ldi_inv hf3
  obtain ⟨rfl, hz⟩ := sf_nil_inv hf4
  exact hm _ [(0, some (.ref _)), (1, some (.long x1)), (3, some (.int x3))] _ _ _ (sf_le_ok (And.intro e0 (And.intro e1 (And.intro e3 trivial)))) (h _ _ _ _ hz hp)
abbrev wX12_digest_106 {ρ : Type} (k : Int64 → Int32 → sf_S → Option ρ) : sf_M ρ := fun L st σ => sf_lda L 0 fun a0 => sf_eq a0 0 (sf_ldl L 1 fun x1 => sf_ldi L 3 fun x3 => sf_nil st (k x1 x3 σ))
theorem wX12_digest_106_ok {ρ : Type} {Wt : Nat → sf_L → List Value → sf_S → Prop} {Post : ρ → Prop} (hm : sf_mono Wt) {k : Int64 → Int32 → sf_S → Option ρ} (h : ∀ (x1 : Int64) (x3 : Int32) (σ : sf_S) (u : ρ), k x1 x3 σ = some u → Post u → Wt 106 [(0, some (.ref 0)), (1, some (.long x1)), (3, some (.int x3))] [] σ) : sf_CK Wt Post 106 (wX12_digest_106 k) := by
  intro L st σ u hf hp
  unfold wX12_digest_106 at hf
  have hf0 := hf
  obtain ⟨a0, e0, hf1⟩ := sf_lda_inv hf0
  obtain ⟨rfl, hf2⟩ := sf_eq_inv hf1
  obtain ⟨x1, e1, hf3⟩ := sf_ldl_inv hf2
  obtain ⟨x3, e3, hf4⟩ := sf_ldi_inv hf3
  obtain ⟨rfl, hz⟩ := sf_nil_inv hf4
  exact hm _ [(0, some (.ref _)), (1, some (.long x1)), (3, some (.int x3))] _ _ _ (sf_le_ok (And.intro e0 (And.intro e1 (And.intro e3 trivial)))) (h _ _ _ _ hz hp)
abbrev wX12_digest_81 {ρ : Type} (k : Int64 → Int32 → sf_S → Option ρ) : sf_M ρ := fun L st σ => sf_lda L 0 fun a0 => sf_eq a0 0 (sf_ldl L 1 fun x1 => sf_ldi L 3 fun x3 => sf_nil st (k x1 x3 σ))
theorem wX12_digest_81_ok {ρ : Type} {Wt : Nat → sf_L → List Value → sf_S → Prop} {Post : ρ → Prop} (hm : sf_mono Wt) {k : Int64 → Int32 → sf_S → Option ρ} (h : ∀ (x1 : Int64) (x3 : Int32) (σ : sf_S) (u : ρ), k x1 x3 σ = some u → Post u → Wt 81 [(0, some (.ref 0)), (1, some (.long x1)), (3, some (.int x3))] [] σ) : sf_CK Wt Post 81 (wX12_digest_81 k) := by
  intro L st σ u hf hp
  unfold wX12_digest_81 at hf
  have hf0 := hf
  obtain ⟨a0, e0, hf1⟩ := sf_lda_inv hf0
  obtain ⟨rfl, hf2⟩ := sf_eq_inv hf1
  obtain ⟨x1, e1, hf3⟩ := sf_ldl_inv hf2
  obtain ⟨x3, e3, hf4⟩ := sf_ldi_inv hf3
  obtain ⟨rfl, hz⟩ := sf_nil_inv hf4
  exact hm _ [(0, some (.ref _)), (1, some (.long x1)), (3, some (.int x3))] _ _ _ (sf_le_ok (And.intro e0 (And.intro e1 (And.intro e3 trivial)))) (h _ _ _ _ hz hp)
abbrev wX12_digest_51 {ρ : Type} (k : Int64 → Int32 → sf_S → Option ρ) : sf_M ρ := fun L st σ => sf_lda L 0 fun a0 => sf_eq a0 0 (sf_ldl L 1 fun x1 => sf_ldi L 3 fun x3 => sf_nil st (k x1 x3 σ))
theorem wX12_digest_51_ok {ρ : Type} {Wt : Nat → sf_L → List Value → sf_S → Prop} {Post : ρ → Prop} (hm : sf_mono Wt) {k : Int64 → Int32 → sf_S → Option ρ} (h : ∀ (x1 : Int64) (x3 : Int32) (σ : sf_S) (u : ρ), k x1 x3 σ = some u → Post u → Wt 51 [(0, some (.ref 0)), (1, some (.long x1)), (3, some (.int x3))] [] σ) : sf_CK Wt Post 51 (wX12_digest_51 k) := by
  intro L st σ u hf hp
  unfold wX12_digest_51 at hf
  have hf0 := hf
  obtain ⟨a0, e0, hf1⟩ := sf_lda_inv hf0
  obtain ⟨rfl, hf2⟩ := sf_eq_inv hf1
  obtain ⟨x1, e1, hf3⟩ := sf_ldl_inv hf2
  obtain ⟨x3, e3, hf4⟩ := sf_ldi_inv hf3
  obtain ⟨rfl, hz⟩ := sf_nil_inv hf4
  exact hm _ [(0, some (.ref _)), (1, some (.long x1)), (3, some (.int x3))] _ _ _ (sf_le_ok (And.intro e0 (And.intro e1 (And.intro e3 trivial)))) (h _ _ _ _ hz hp)
abbrev wX12_digest_6 {ρ : Type} (k : Int64 → Int32 → sf_S → Option ρ) : sf_M ρ := fun L st σ => sf_lda L 0 fun a0 => sf_eq a0 0 (sf_ldl L 1 fun x1 => sf_ldi L 3 fun x3 => sf_nil st (k x1 x3 σ))
theorem wX12_digest_6_ok {ρ : Type} {Wt : Nat → sf_L → List Value → sf_S → Prop} {Post : ρ → Prop} (hm : sf_mono Wt) {k : Int64 → Int32 → sf_S → Option ρ} (h : ∀ (x1 : Int64) (x3 : Int32) (σ : sf_S) (u : ρ), k x1 x3 σ = some u → Post u → Wt 6 [(0, some (.ref 0)), (1, some (.long x1)), (3, some (.int x3))] [] σ) : sf_CK Wt Post 6 (wX12_digest_6 k) := by
  intro L st σ u hf hp
  unfold wX12_digest_6 at hf
  have hf0 := hf
  obtain ⟨a0, e0, hf1⟩ := sf_lda_inv hf0
  obtain ⟨rfl, hf2⟩ := sf_eq_inv hf1
  obtain ⟨x1, e1, hf3⟩ := sf_ldl_inv hf2
  obtain ⟨x3, e3, hf4⟩ := sf_ldi_inv hf3
  obtain ⟨rfl, hz⟩ := sf_nil_inv hf4
  exact hm _ [(0, some (.ref _)), (1, some (.long x1)), (3, some (.int x3))] _ _ _ (sf_le_ok (And.intro e0 (And.intro e1 (And.intro e3 trivial)))) (h _ _ _ _ hz hp)
noncomputable def dX12_digest_134 : Nat → Int64 → Int32 → sf_S → Option (Int64 × sf_S)
  | 0 => fun _ _ _ => none
  | n + 1 => fun x1 x3 σ =>
    (dX12_keptDown σ).bind fun u1 =>
    if u1.1 ≤ x3 then
      (dX12_savesBy (3 : Int32) u1.2).bind fun u2 =>
      some ((((31 : Int64) * x1) + u2.1.toInt64), u2.2)
    else
      if sf_in x3 40 then
        let v3 := (((31 : Int64) * x1) + ((u1.2 36 x3.toNatClampNeg)).toInt64)
        if sf_in x3 40 then
          let v4 := (((31 : Int64) * v3) + ((u1.2 37 x3.toNatClampNeg)).toInt64)
          dX12_digest_134 n v4 (x3 + (1 : Int32)) u1.2
        else
          none
      else
        none
set_option maxRecDepth 100000 in
set_option maxHeartbeats 4000000 in
theorem rX12_digest_134 {Wt : Nat → sf_L → List Value → sf_S → Prop} {Post : (Int64 × sf_S) → Prop} (hs : sf_Snd Wt sf_layM sf_hL jX12_digest tX12_digest Post) (hm : sf_mono Wt) : ∀ n : Nat, sf_CK Wt Post 134 (wX12_digest_134 (dX12_digest_134 n)) := by
  intro n
  induction n with
  | zero => exact wX12_digest_134_ok hm (fun x1 x3 σ u h _ => by simp [dX12_digest_134] at h)
  | succ n ih =>
    refine wX12_digest_134_ok hm ?_
    intro x1 x3 σ u h hp
    exact sf_run_ok hs (sf_sm_cons ih sf_sm_nil) 122 134 _ _ σ u h hp
noncomputable def dX12_digest_106 : Nat → Int64 → Int32 → sf_S → Option (Int64 × sf_S)
  | 0 => fun _ _ _ => none
  | n + 1 => fun x1 x3 σ =>
    if (6 : Int32) ≤ x3 then
      dX12_digest_134 sf_F x1 (0 : Int32) σ
    else
      if sf_in x3 6 then
        let v1 := (((31 : Int64) * x1) + ((σ 34 x3.toNatClampNeg)).toInt64)
        dX12_digest_106 n v1 (x3 + (1 : Int32)) σ
      else
        none
set_option maxRecDepth 100000 in
set_option maxHeartbeats 4000000 in
theorem rX12_digest_106 {Wt : Nat → sf_L → List Value → sf_S → Prop} {Post : (Int64 × sf_S) → Prop} (hs : sf_Snd Wt sf_layM sf_hL jX12_digest tX12_digest Post) (hm : sf_mono Wt) : ∀ n : Nat, sf_CK Wt Post 106 (wX12_digest_106 (dX12_digest_106 n)) := by
  intro n
  induction n with
  | zero => exact wX12_digest_106_ok hm (fun x1 x3 σ u h _ => by simp [dX12_digest_106] at h)
  | succ n ih =>
    refine wX12_digest_106_ok hm ?_
    intro x1 x3 σ u h hp
    exact sf_run_ok hs (sf_sm_cons ih (sf_sm_cons (rX12_digest_134 hs hm sf_F) sf_sm_nil)) 122 106 _ _ σ u h hp
noncomputable def dX12_digest_81 : Nat → Int64 → Int32 → sf_S → Option (Int64 × sf_S)
  | 0 => fun _ _ _ => none
  | n + 1 => fun x1 x3 σ =>
    if (3 : Int32) ≤ x3 then
      dX12_digest_106 sf_F x1 (0 : Int32) σ
    else
      (dX12_foldBy x3 σ).bind fun u1 =>
      let v2 := (((31 : Int64) * x1) + u1.1)
      dX12_digest_81 n v2 (x3 + (1 : Int32)) u1.2
set_option maxRecDepth 100000 in
set_option maxHeartbeats 4000000 in
theorem rX12_digest_81 {Wt : Nat → sf_L → List Value → sf_S → Prop} {Post : (Int64 × sf_S) → Prop} (hs : sf_Snd Wt sf_layM sf_hL jX12_digest tX12_digest Post) (hm : sf_mono Wt) : ∀ n : Nat, sf_CK Wt Post 81 (wX12_digest_81 (dX12_digest_81 n)) := by
  intro n
  induction n with
  | zero => exact wX12_digest_81_ok hm (fun x1 x3 σ u h _ => by simp [dX12_digest_81] at h)
  | succ n ih =>
    refine wX12_digest_81_ok hm ?_
    intro x1 x3 σ u h hp
    exact sf_run_ok hs (sf_sm_cons ih (sf_sm_cons (rX12_digest_106 hs hm sf_F) sf_sm_nil)) 122 81 _ _ σ u h hp
noncomputable def dX12_digest_51 : Nat → Int64 → Int32 → sf_S → Option (Int64 × sf_S)
  | 0 => fun _ _ _ => none
  | n + 1 => fun x1 x3 σ =>
    if (σ 0 55) ≤ x3 then
      dX12_digest_81 sf_F x1 (0 : Int32) σ
    else
      if sf_in x3 40 then
        let v1 := (((31 : Int64) * x1) + ((σ 35 x3.toNatClampNeg)).toInt64)
        dX12_digest_51 n v1 (x3 + (1 : Int32)) σ
      else
        none
set_option maxRecDepth 100000 in
set_option maxHeartbeats 4000000 in
theorem rX12_digest_51 {Wt : Nat → sf_L → List Value → sf_S → Prop} {Post : (Int64 × sf_S) → Prop} (hs : sf_Snd Wt sf_layM sf_hL jX12_digest tX12_digest Post) (hm : sf_mono Wt) : ∀ n : Nat, sf_CK Wt Post 51 (wX12_digest_51 (dX12_digest_51 n)) := by
  intro n
  induction n with
  | zero => exact wX12_digest_51_ok hm (fun x1 x3 σ u h _ => by simp [dX12_digest_51] at h)
  | succ n ih =>
    refine wX12_digest_51_ok hm ?_
    intro x1 x3 σ u h hp
    exact sf_run_ok hs (sf_sm_cons ih (sf_sm_cons (rX12_digest_81 hs hm sf_F) sf_sm_nil)) 122 51 _ _ σ u h hp
noncomputable def dX12_digest_6 : Nat → Int64 → Int32 → sf_S → Option (Int64 × sf_S)
  | 0 => fun _ _ _ => none
  | n + 1 => fun x1 x3 σ =>
    if (8 : Int32) ≤ x3 then
      (dX12_faultNow σ).bind fun u1 =>
      let v2 := (((31 : Int64) * x1) + u1.1.toInt64)
      (dX12_planTells v2 u1.2).bind fun u3 =>
      dX12_digest_51 sf_F u3.1 (0 : Int32) u3.2
    else
      (dX12_count x3 σ).bind fun u4 =>
      let v5 := (((31 : Int64) * x1) + u4.1.toInt64)
      dX12_digest_6 n v5 (x3 + (1 : Int32)) u4.2
set_option maxRecDepth 100000 in
set_option maxHeartbeats 4000000 in
theorem rX12_digest_6 {Wt : Nat → sf_L → List Value → sf_S → Prop} {Post : (Int64 × sf_S) → Prop} (hs : sf_Snd Wt sf_layM sf_hL jX12_digest tX12_digest Post) (hm : sf_mono Wt) : ∀ n : Nat, sf_CK Wt Post 6 (wX12_digest_6 (dX12_digest_6 n)) := by
  intro n
  induction n with
  | zero => exact wX12_digest_6_ok hm (fun x1 x3 σ u h _ => by simp [dX12_digest_6] at h)
  | succ n ih =>
    refine wX12_digest_6_ok hm ?_
    intro x1 x3 σ u h hp
    exact sf_run_ok hs (sf_sm_cons ih (sf_sm_cons (rX12_digest_51 hs hm sf_F) sf_sm_nil)) 122 6 _ _ σ u h hp
noncomputable def dX12_digest (σ : sf_S) : Option (Int64 × sf_S) :=
  dX12_digest_6 sf_F (17 : Int64) (0 : Int32) σ
noncomputable abbrev gX12_digest (av : List Value) (σ : sf_S) : Option (Int64 × sf_S) := match av with
  | [.ref q] => (match sf_rv [0] q with | true => dX12_digest σ | false => none)
  | _ => none
set_option maxRecDepth 100000 in
set_option maxHeartbeats 4000000 in
theorem rX12_digest {Wt : Nat → sf_L → List Value → sf_S → Prop} {Post : (Int64 × sf_S) → Prop} (hs : sf_Snd Wt sf_layM sf_hL jX12_digest tX12_digest Post) (hm : sf_mono Wt) : ∀ av σ u, gX12_digest av σ = some u → Post u → (∀ ad, (lg_sl (av.map (sf_v ad))).length ≤ 4) ∧ Wt 0 (sf_ent 0 av) [] σ := by
  intro av σ u h hp
  unfold gX12_digest at h
  split at h
  · rename_i q
    split at h
    · rename_i hq
      have hq : q = 0 := by simpa using sf_rv_mem hq
      subst hq
      refine ⟨fun ad => Nat.le_of_ble_eq_true rfl, ?_⟩
      exact sf_run_ok hs (sf_sm_cons (rX12_digest_6 hs hm sf_F) sf_sm_nil) 122 0 _ _ σ u h hp
    · cases h
  · cases h
theorem kX12_digest (l : Launch) : sf_C l sf_layM yX12_digest cX12_digest 4 (some .long) (sf_rm 8 268) (fun av σ => (gX12_digest av σ).map sf_vL) :=
  sf_met (tab := tX12_digest) (J := jX12_digest) (fl := sf_fl12) (cl := sf_cl12) (by decide +kernel) ⟨rfl, rfl⟩ sf_RH_L (by decide +kernel) sf_fl12_ok sf_cl12_ok
    (sf_JO_cons (sf_je_V (n := 2) (cs := [10]) (tv := sf_vI) (kX12_count l) mwX12_count (by decide +kernel : decode cX12_digest 19 = .ok (.invokevirtual 440, 3)) wt_1743 wt_1730 wt_1731 (by decide +kernel) (by decide) (by decide) (List.forall_mem_cons.mpr ⟨⟨_, _, rfl⟩, fun _ h => absurd h List.not_mem_nil⟩) (sf_RM_of (by omega) (by omega))) (sf_JO_cons (sf_je_V (n := 1) (cs := [10]) (tv := sf_vI) (kX12_faultNow l) mwX12_faultNow (by decide +kernel : decode cX12_digest 37 = .ok (.invokevirtual 202, 3)) wt_1423 wt_1425 wt_85 (by decide +kernel) (by decide) (by decide) (List.forall_mem_cons.mpr ⟨⟨_, _, rfl⟩, fun _ h => absurd h List.not_mem_nil⟩) (sf_RM_of (by omega) (by omega))) (sf_JO_cons (sf_je_V (n := 2) (cs := [10]) (tv := sf_vL) (kX12_planTells l) mwX12_planTells (by decide +kernel : decode cX12_digest 45 = .ok (.invokevirtual 443, 3)) wt_1744 wt_1746 wt_142 (by decide +kernel) (by decide) (by decide) (List.forall_mem_cons.mpr ⟨⟨_, _, rfl⟩, fun _ h => absurd h List.not_mem_nil⟩) (sf_RM_of (by omega) (by omega))) (sf_JO_cons (sf_je_V (n := 2) (cs := [10]) (tv := sf_vL) (kX12_foldBy l) mwX12_foldBy (by decide +kernel : decode cX12_digest 93 = .ok (.invokevirtual 416, 3)) wt_1688 wt_1690 wt_136 (by decide +kernel) (by decide) (by decide) (List.forall_mem_cons.mpr ⟨⟨_, _, rfl⟩, fun _ h => absurd h List.not_mem_nil⟩) (sf_RM_of (by omega) (by omega))) (sf_JO_cons (sf_je_V (n := 1) (cs := [10]) (tv := sf_vI) (kX12_keptDown l) mwX12_keptDown (by decide +kernel : decode cX12_digest 136 = .ok (.invokevirtual 419, 3)) wt_1705 wt_1707 wt_137 (by decide +kernel) (by decide) (by decide) (List.forall_mem_cons.mpr ⟨⟨_, _, rfl⟩, fun _ h => absurd h List.not_mem_nil⟩) (sf_RM_of (by omega) (by omega))) (sf_JO_cons (sf_je_V (n := 2) (cs := [10]) (tv := sf_vI) (kX12_savesBy l) mwX12_savesBy (by decide +kernel : decode cX12_digest 183 = .ok (.invokevirtual 430, 3)) wt_1721 wt_1723 wt_139 (by decide +kernel) (by decide) (by decide) (List.forall_mem_cons.mpr ⟨⟨_, _, rfl⟩, fun _ h => absurd h List.not_mem_nil⟩) (sf_RM_of (by omega) (by omega))) (sf_JO_nil)))))))
    (fun Wt Post hs hm => rX12_digest hs hm)
