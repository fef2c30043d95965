/-! ===== 30.X12, goes on ===== -/
-- ===== StreamFuserModel.fails(II)V =====
abbrev tX12_fails : List (Nat × sf_E) := [(0, (.aload_n 0, 1, 0, .null, [], [])), (1, (.iload_n 1, 2, 0, .null, [], [])), (2, (.putfield 294, 5, 0, .null, [], [(10, 35)])), (5, (.aload_n 0, 6, 0, .null, [], [])), (6, (.iload_n 1, 7, 0, .null, [], [])), (7, (.iconst 3, 8, 0, .int (3), [], [])), (8, (.if_icmp .ne 7, 11, 15, .null, [], [])), (11, (.iconst 0, 12, 0, .int (0), [], [])), (12, (.goto 9, 15, 21, .null, [], [])), (15, (.aload_n 0, 16, 0, .null, [], [])), (16, (.getfield 64, 19, 0, .null, [], [(10, 26)])), (19, (.iload_n 2, 20, 0, .null, [], [])), (20, (.iaload, 21, 0, .null, [], [])), (21, (.putfield 297, 24, 0, .null, [], [(10, 36)])), (24, (.return_, 25, 0, .null, [], []))]
noncomputable abbrev jX12_fails : List (Nat × sf_J sf_S) := []
noncomputable def dX12_fails (x1 : Int32) (x2 : Int32) (σ : sf_S) : Option sf_S :=
  let s1 := sf_up σ 0 35 x1
  if ¬ x1 = (3 : Int32) then
    if sf_in x2 40 then
      let s2 := sf_up s1 0 36 (s1 19 x2.toNatClampNeg)
      some s2
    else
      none
  else
    let s3 := sf_up s1 0 36 (0 : Int32)
    some s3
noncomputable abbrev gX12_fails (av : List Value) (σ : sf_S) : Option sf_S := match av with
  | [.ref q, .int x1, .int x2] => (match sf_rv [0] q with | true => dX12_fails x1 x2 σ | false => none)
  | _ => none
set_option maxRecDepth 100000 in
set_option maxHeartbeats 4000000 in
theorem rX12_fails {Wt : Nat → sf_L → List Value → sf_S → Prop} {Post : sf_S → Prop} (hs : sf_Snd Wt sf_layM sf_hV jX12_fails tX12_fails Post) (hm : sf_mono Wt) : ∀ av σ u, gX12_fails av σ = some u → Post u → (∀ ad, (lg_sl (av.map (sf_v ad))).length ≤ 3) ∧ Wt 0 (sf_ent 0 av) [] σ := by
  intro av σ u h hp
  unfold gX12_fails at h
  split at h
  · rename_i q x1 x2
    split at h
    · rename_i hq
      have hq : q = 0 := by simpa using sf_rv_mem hq
      subst hq
      refine ⟨fun ad => Nat.le_of_ble_eq_true rfl, ?_⟩
      exact sf_run_ok hs sf_sm_nil 20 0 _ _ σ u h hp
    · cases h
  · cases h
theorem kX12_fails (l : Launch) : sf_C l sf_layM yX12_fails cX12_fails 3 none (sf_rm 1 100) (fun av σ => (gX12_fails av σ).map sf_vV) :=
  sf_met (tab := tX12_fails) (J := jX12_fails) (fl := sf_fl12) (cl := sf_cl12) (by decide +kernel) ⟨rfl, rfl⟩ sf_RH_V (by decide +kernel) sf_fl12_ok sf_cl12_ok
    (sf_JO_nil)
    (fun Wt Post hs hm => rX12_fails hs hm)
-- ===== StreamFuserModel.writesDown(II)V =====
abbrev tX12_writesDown : List (Nat × sf_E) := [(0, (.aload_n 0, 1, 0, .null, [], [])), (1, (.getfield 300, 4, 0, .null, [], [(10, 44)])), (4, (.bipush 40, 6, 0, .int (40), [], [])), (6, (.if_icmp .ge 23, 9, 29, .null, [], [])), (9, (.aload_n 0, 10, 0, .null, [], [])), (10, (.getfield 88, 13, 0, .null, [], [(10, 42)])), (13, (.aload_n 0, 14, 0, .null, [], [])), (14, (.getfield 300, 17, 0, .null, [], [(10, 44)])), (17, (.iload_n 1, 18, 0, .null, [], [])), (18, (.iastore, 19, 0, .null, [], [])), (19, (.aload_n 0, 20, 0, .null, [], [])), (20, (.getfield 91, 23, 0, .null, [], [(10, 43)])), (23, (.aload_n 0, 24, 0, .null, [], [])), (24, (.getfield 300, 27, 0, .null, [], [(10, 44)])), (27, (.iload_n 2, 28, 0, .null, [], [])), (28, (.iastore, 29, 0, .null, [], [])), (29, (.aload_n 0, 30, 0, .null, [], [])), (30, (.dup, 31, 0, .null, [], [])), (31, (.getfield 300, 34, 0, .null, [], [(10, 44)])), (34, (.iconst 1, 35, 0, .int (1), [], [])), (35, (.iadd, 36, 0, .null, [], [])), (36, (.putfield 300, 39, 0, .null, [], [(10, 44)])), (39, (.return_, 40, 0, .null, [], []))]
noncomputable abbrev jX12_writesDown : List (Nat × sf_J sf_S) := []
noncomputable def dX12_writesDown (x1 : Int32) (x2 : Int32) (σ : sf_S) : Option sf_S :=
  if (40 : Int32) ≤ (σ 0 44) then
    let s1 := sf_up σ 0 44 ((σ 0 44) + (1 : Int32))
    some s1
  else
    let v2 := (σ 0 44)
    if sf_in v2 40 then
      let s3 := sf_up σ 27 v2.toNatClampNeg x1
      let v4 := (s3 0 44)
      if sf_in v4 40 then
        let s5 := sf_up s3 28 v4.toNatClampNeg x2
        let s6 := sf_up s5 0 44 ((s5 0 44) + (1 : Int32))
        some s6
      else
        none
    else
      none
noncomputable abbrev gX12_writesDown (av : List Value) (σ : sf_S) : Option sf_S := match av with
  | [.ref q, .int x1, .int x2] => (match sf_rv [0] q with | true => dX12_writesDown x1 x2 σ | false => none)
  | _ => none
set_option maxRecDepth 100000 in
set_option maxHeartbeats 4000000 in
theorem rX12_writesDown {Wt : Nat → sf_L → List Value → sf_S → Prop} {Post : sf_S → Prop} (hs : sf_Snd Wt sf_layM sf_hV jX12_writesDown tX12_writesDown Post) (hm : sf_mono Wt) : ∀ av σ u, gX12_writesDown av σ = some u → Post u → (∀ ad, (lg_sl (av.map (sf_v ad))).length ≤ 3) ∧ Wt 0 (sf_ent 0 av) [] σ := by
  intro av σ u h hp
  unfold gX12_writesDown at h
  split at h
  · rename_i q x1 x2
    split at h
    · rename_i hq
      have hq : q = 0 := by simpa using sf_rv_mem hq
      subst hq
      refine ⟨fun ad => Nat.le_of_ble_eq_true rfl, ?_⟩
      exact sf_run_ok hs sf_sm_nil 28 0 _ _ σ u h hp
    · cases h
  · cases h
theorem kX12_writesDown (l : Launch) : sf_C l sf_layM yX12_writesDown cX12_writesDown 3 none (sf_rm 1 100) (fun av σ => (gX12_writesDown av σ).map sf_vV) :=
  sf_met (tab := tX12_writesDown) (J := jX12_writesDown) (fl := sf_fl12) (cl := sf_cl12) (by decide +kernel) ⟨rfl, rfl⟩ sf_RH_V (by decide +kernel) sf_fl12_ok sf_cl12_ok
    (sf_JO_nil)
    (fun Wt Post hs hm => rX12_writesDown hs hm)
-- ===== StreamFuserModel.begins(II)V =====
abbrev tX12_begins : List (Nat × sf_E) := [(0, (.iload_n 1, 1, 0, .null, [], [])), (1, (.istore_n 3, 2, 0, .null, [], [])), (2, (.iload_n 3, 3, 0, .null, [], [])), (3, (.iload_n 1, 4, 0, .null, [], [])), (4, (.iload_n 2, 5, 0, .null, [], [])), (5, (.iadd, 6, 0, .null, [], [])), (6, (.if_icmp .ge 54, 9, 60, .null, [], [])), (9, (.aload_n 0, 10, 0, .null, [], [])), (10, (.getfield 40, 13, 0, .null, [], [(10, 17)])), (13, (.iload_n 3, 14, 0, .null, [], [])), (14, (.iaload, 15, 0, .null, [], [])), (15, (.istore 4, 17, 0, .null, [], [])), (17, (.aload_n 0, 18, 0, .null, [], [])), (18, (.getfield 79, 21, 0, .null, [], [(10, 33)])), (21, (.iload_n 3, 22, 0, .null, [], [])), (22, (.iload 4, 24, 0, .null, [], [])), (24, (.bipush 114, 26, 0, .int (114), [], [])), (26, (.if_icmp .eq 17, 29, 43, .null, [], [])), (29, (.iload 4, 31, 0, .null, [], [])), (31, (.bipush 105, 33, 0, .int (105), [], [])), (33, (.if_icmp .eq 10, 36, 43, .null, [], [])), (36, (.iload 4, 38, 0, .null, [], [])), (38, (.bipush 100, 40, 0, .int (100), [], [])), (40, (.if_icmp .ne 12, 43, 52, .null, [], [])), (43, (.aload_n 0, 44, 0, .null, [], [])), (44, (.getfield 46, 47, 0, .null, [], [(10, 19)])), (47, (.iload_n 3, 48, 0, .null, [], [])), (48, (.iaload, 49, 0, .null, [], [])), (49, (.goto 4, 52, 53, .null, [], [])), (52, (.iconst 0, 53, 0, .int (0), [], [])), (53, (.iastore, 54, 0, .null, [], [])), (54, (.iinc 3 1, 57, 0, .int (1), [], [])), (57, (.goto (-55), 60, 2, .null, [], [])), (60, (.return_, 61, 0, .null, [], []))]
noncomputable abbrev jX12_begins : List (Nat × sf_J sf_S) := []
abbrev wX12_begins_2 {ρ : Type} (k : Int32 → Int32 → Int32 → sf_S → Option ρ) : sf_M ρ := fun L st σ => sf_lda L 0 fun a0 => sf_eq a0 0 (sf_ldi L 1 fun x1 => sf_ldi L 2 fun x2 => sf_ldi L 3 fun x3 => sf_nil st (k x1 x2 x3 σ))
theorem wX12_begins_2_ok {ρ : Type} {Wt : Nat → sf_L → List Value → sf_S → Prop} {Post : ρ → Prop} (hm : sf_mono Wt) {k : Int32 → Int32 → Int32 → sf_S → Option ρ} (h : ∀ (x1 : Int32) (x2 : Int32) (x3 : Int32) (σ : sf_S) (u : ρ), k x1 x2 x3 σ = some u → Post u → Wt 2 [(0, some (.ref 0)), (1, some (.int x1)), (2, some (.int x2)), (3, some (.int x3))] [] σ) : sf_CK Wt Post 2 (wX12_begins_2 k) := by
  intro L st σ u hf hp
  unfold wX12_begins_2 at hf
  have hf0 := hf
  obtain ⟨a0, e0, hf1⟩ := sf_lda_inv hf0
  obtain ⟨rfl, hf2⟩ := sf_eq_inv hf1
  obtain ⟨x1, e1, hf3⟩ := sf_ldi_inv hf2
  obtain ⟨x2, e2, hf4⟩ := sf_ldi_inv hf3
  obtain ⟨x3, e3, hf5⟩ := sf_ldi_inv hf4
  obtain ⟨rfl, hz⟩ := sf_nil_inv hf5
  exact hm _ [(0, some (.ref _)), (1, some (.int x1)), (2, some (.int x2)), (3, some (.int x3))] _ _ _ (sf_le_ok (And.intro e0 (And.intro e1 (And.intro e2 (And.intro e3 trivial))))) (h _ _ _ _ _ hz hp)
noncomputable def dX12_begins_2 : Nat → Int32 → Int32 → Int32 → sf_S → Option sf_S
  | 0 => fun _ _ _ _ => none
  | n + 1 => fun x1 x2 x3 σ =>
    if (x1 + x2) ≤ x3 then
      some σ
    else
      if sf_in x3 40 then
        let v1 := (σ 11 x3.toNatClampNeg)
        if v1 = (114 : Int32) then
          if sf_in x3 40 then
            if sf_in x3 40 then
              let s2 := sf_up σ 24 x3.toNatClampNeg (σ 13 x3.toNatClampNeg)
              dX12_begins_2 n x1 x2 (x3 + (1 : Int32)) s2
            else
              none
          else
            none
        else
          if v1 = (105 : Int32) then
            if sf_in x3 40 then
              if sf_in x3 40 then
                let s3 := sf_up σ 24 x3.toNatClampNeg (σ 13 x3.toNatClampNeg)
                dX12_begins_2 n x1 x2 (x3 + (1 : Int32)) s3
              else
                none
            else
              none
          else
            if ¬ v1 = (100 : Int32) then
              if sf_in x3 40 then
                let s4 := sf_up σ 24 x3.toNatClampNeg (0 : Int32)
                dX12_begins_2 n x1 x2 (x3 + (1 : Int32)) s4
              else
                none
            else
              if sf_in x3 40 then
                if sf_in x3 40 then
                  let s5 := sf_up σ 24 x3.toNatClampNeg (σ 13 x3.toNatClampNeg)
                  dX12_begins_2 n x1 x2 (x3 + (1 : Int32)) s5
                else
                  none
              else
                none
      else
        none
set_option maxRecDepth 100000 in
set_option maxHeartbeats 4000000 in
theorem rX12_begins_2 {Wt : Nat → sf_L → List Value → sf_S → Prop} {Post : sf_S → Prop} (hs : sf_Snd Wt sf_layM sf_hV jX12_begins tX12_begins Post) (hm : sf_mono Wt) : ∀ n : Nat, sf_CK Wt Post 2 (wX12_begins_2 (dX12_begins_2 n)) := by
  intro n
  induction n with
  | zero => exact wX12_begins_2_ok hm (fun x1 x2 x3 σ u h _ => by simp [dX12_begins_2] at h)
  | succ n ih =>
    refine wX12_begins_2_ok hm ?_
    intro x1 x2 x3 σ u h hp
    exact sf_run_ok hs (sf_sm_cons ih sf_sm_nil) 39 2 _ _ σ u h hp
noncomputable def dX12_begins (x1 : Int32) (x2 : Int32) (σ : sf_S) : Option sf_S :=
  dX12_begins_2 sf_F x1 x2 x1 σ
noncomputable abbrev gX12_begins (av : List Value) (σ : sf_S) : Option sf_S := match av with
  | [.ref q, .int x1, .int x2] => (match sf_rv [0] q with | true => dX12_begins x1 x2 σ | false => none)
  | _ => none
set_option maxRecDepth 100000 in
set_option maxHeartbeats 4000000 in
theorem rX12_begins {Wt : Nat → sf_L → List Value → sf_S → Prop} {Post : sf_S → Prop} (hs : sf_Snd Wt sf_layM sf_hV jX12_begins tX12_begins Post) (hm : sf_mono Wt) : ∀ av σ u, gX12_begins av σ = some u → Post u → (∀ ad, (lg_sl (av.map (sf_v ad))).length ≤ 5) ∧ Wt 0 (sf_ent 0 av) [] σ := by
  intro av σ u h hp
  unfold gX12_begins at h
  split at h
  · rename_i q x1 x2
    split at h
    · rename_i hq
      have hq : q = 0 := by simpa using sf_rv_mem hq
      subst hq
      refine ⟨fun ad => Nat.le_of_ble_eq_true rfl, ?_⟩
      exact sf_run_ok hs (sf_sm_cons (rX12_begins_2 hs hm sf_F) sf_sm_nil) 39 0 _ _ σ u h hp
    · cases h
  · cases h
theorem kX12_begins (l : Launch) : sf_C l sf_layM yX12_begins cX12_begins 5 none (sf_rm 1 100) (fun av σ => (gX12_begins av σ).map sf_vV) :=
  sf_met (tab := tX12_begins) (J := jX12_begins) (fl := sf_fl12) (cl := sf_cl12) (by decide +kernel) ⟨rfl, rfl⟩ sf_RH_V (by decide +kernel) sf_fl12_ok sf_cl12_ok
    (sf_JO_nil)
    (fun Wt Post hs hm => rX12_begins hs hm)
-- ===== StreamFuserModel.draws()Z =====
abbrev tX12_draws : List (Nat × sf_E) := [(0, (.aload_n 0, 1, 0, .null, [], [])), (1, (.getfield 303, 4, 0, .null, [], [(10, 37)])), (4, (.sipush 500, 7, 0, .int (500), [], [])), (7, (.if_icmp .ne 11, 10, 18, .null, [], [])), (10, (.aload_n 0, 11, 0, .null, [], [])), (11, (.iconst 3, 12, 0, .int (3), [], [])), (12, (.iconst 0, 13, 0, .int (0), [], [])), (13, (.invokevirtual 306, 16, 0, .null, [], [])), (16, (.iconst 0, 17, 0, .int (0), [], [])), (17, (.ireturn, 18, 0, .null, [], [])), (18, (.aload_n 0, 19, 0, .null, [], [])), (19, (.dup, 20, 0, .null, [], [])), (20, (.getfield 303, 23, 0, .null, [], [(10, 37)])), (23, (.iconst 1, 24, 0, .int (1), [], [])), (24, (.iadd, 25, 0, .null, [], [])), (25, (.putfield 303, 28, 0, .null, [], [(10, 37)])), (28, (.iconst 1, 29, 0, .int (1), [], [])), (29, (.ireturn, 30, 0, .null, [], []))]
noncomputable abbrev jX12_draws : List (Nat × sf_J (Int32 × sf_S)) := [(13, sf_jV sf_layM [10] 3 gX12_fails)]
noncomputable def dX12_draws (σ : sf_S) : Option (Int32 × sf_S) :=
  if ¬ (σ 0 37) = (500 : Int32) then
    let s1 := sf_up σ 0 37 ((σ 0 37) + (1 : Int32))
    some ((1 : Int32), s1)
  else
    (dX12_fails (3 : Int32) (0 : Int32) σ).bind fun u2 =>
    some ((0 : Int32), u2)
noncomputable abbrev gX12_draws (av : List Value) (σ : sf_S) : Option (Int32 × sf_S) := match av with
  | [.ref q] => (match sf_rv [0] q with | true => dX12_draws σ | false => none)
  | _ => none
set_option maxRecDepth 100000 in
set_option maxHeartbeats 4000000 in
theorem rX12_draws {Wt : Nat → sf_L → List Value → sf_S → Prop} {Post : (Int32 × sf_S) → Prop} (hs : sf_Snd Wt sf_layM sf_hZ jX12_draws tX12_draws Post) (hm : sf_mono Wt) : ∀ av σ u, gX12_draws av σ = some u → Post u → (∀ ad, (lg_sl (av.map (sf_v ad))).length ≤ 1) ∧ Wt 0 (sf_ent 0 av) [] σ := by
  intro av σ u h hp
  unfold gX12_draws at h
  split at h
  · rename_i q
    split at h
    · rename_i hq
      have hq : q = 0 := by simpa using sf_rv_mem hq
      subst hq
      refine ⟨fun ad => Nat.le_of_ble_eq_true rfl, ?_⟩
      exact sf_run_ok hs sf_sm_nil 23 0 _ _ σ u h hp
    · cases h
  · cases h
theorem kX12_draws (l : Launch) : sf_C l sf_layM yX12_draws cX12_draws 1 (some .boolean) (sf_rm 2 122) (fun av σ => (gX12_draws av σ).map sf_vI) :=
  sf_met (tab := tX12_draws) (J := jX12_draws) (fl := sf_fl12) (cl := sf_cl12) (by decide +kernel) ⟨rfl, rfl⟩ sf_RH_Z (by decide +kernel) sf_fl12_ok sf_cl12_ok
    (sf_JO_cons (sf_je_V (n := 3) (cs := [10]) (tv := sf_vV) (kX12_fails l) mwX12_fails (by decide +kernel : decode cX12_draws 13 = .ok (.invokevirtual 306, 3)) wt_1595 wt_1597 wt_116 (by decide +kernel) (by decide) (by decide) (List.forall_mem_cons.mpr ⟨⟨_, _, rfl⟩, fun _ h => absurd h List.not_mem_nil⟩) (sf_RM_of (by omega) (by omega))) (sf_JO_nil))
    (fun Wt Post hs hm => rX12_draws hs hm)
-- ===== StreamFuserModel.gives(I)V =====
abbrev tX12_gives : List (Nat × sf_E) := [(0, (.aload_n 0, 1, 0, .null, [], [])), (1, (.getfield 43, 4, 0, .null, [], [(10, 18)])), (4, (.iload_n 1, 5, 0, .null, [], [])), (5, (.iaload, 6, 0, .null, [], [])), (6, (.istore_n 2, 7, 0, .null, [], [])), (7, (.aload_n 0, 8, 0, .null, [], [])), (8, (.getfield 40, 11, 0, .null, [], [(10, 17)])), (11, (.iload_n 1, 12, 0, .null, [], [])), (12, (.iaload, 13, 0, .null, [], [])), (13, (.lookupswitch 222 #[(105, 80), (114, 43), (115, 98), (117, 180)], 56, 235, .null, [((105), 93), ((114), 56), ((115), 111), ((117), 193)], [])), (56, (.aload_n 0, 57, 0, .null, [], [])), (57, (.aload_n 0, 58, 0, .null, [], [])), (58, (.getfield 79, 61, 0, .null, [], [(10, 33)])), (61, (.iload_n 1, 62, 0, .null, [], [])), (62, (.iaload, 63, 0, .null, [], [])), (63, (.aload_n 0, 64, 0, .null, [], [])), (64, (.getfield 49, 67, 0, .null, [], [(10, 20)])), (67, (.iload_n 1, 68, 0, .null, [], [])), (68, (.iaload, 69, 0, .null, [], [])), (69, (.if_icmp .ge 7, 72, 76, .null, [], [])), (72, (.iconst 1, 73, 0, .int (1), [], [])), (73, (.goto 4, 76, 77, .null, [], [])), (76, (.iconst 0, 77, 0, .int (0), [], [])), (77, (.putfield 309, 80, 0, .int 0, [], [(10, 45)])), (80, (.aload_n 0, 81, 0, .null, [], [])), (81, (.aload_n 0, 82, 0, .null, [], [])), (82, (.getfield 79, 85, 0, .null, [], [(10, 33)])), (85, (.iload_n 1, 86, 0, .null, [], [])), (86, (.iaload, 87, 0, .null, [], [])), (87, (.putfield 312, 90, 0, .null, [], [(10, 46)])), (90, (.goto 178, 93, 268, .null, [], [])), (93, (.aload_n 0, 94, 0, .null, [], [])), (94, (.iconst 1, 95, 0, .int (1), [], [])), (95, (.putfield 309, 98, 0, .int 0, [], [(10, 45)])), (98, (.aload_n 0, 99, 0, .null, [], [])), (99, (.aload_n 0, 100, 0, .null, [], [])), (100, (.getfield 79, 103, 0, .null, [], [(10, 33)])), (103, (.iload_n 1, 104, 0, .null, [], [])), (104, (.iaload, 105, 0, .null, [], [])), (105, (.putfield 312, 108, 0, .null, [], [(10, 46)])), (108, (.goto 160, 111, 268, .null, [], [])), (111, (.aload_n 0, 112, 0, .null, [], [])), (112, (.aload_n 0, 113, 0, .null, [], [])), (113, (.getfield 7, 116, 0, .null, [], [(10, 0)])), (116, (.iload_n 2, 117, 0, .null, [], [])), (117, (.iaload, 118, 0, .null, [], [])), (118, (.ifCond .lt 22, 121, 140, .null, [], [])), (121, (.aload_n 0, 122, 0, .null, [], [])), (122, (.getfield 79, 125, 0, .null, [], [(10, 33)])), (125, (.iload_n 1, 126, 0, .null, [], [])), (126, (.iaload, 127, 0, .null, [], [])), (127, (.aload_n 0, 128, 0, .null, [], [])), (128, (.getfield 13, 131, 0, .null, [], [(10, 1)])), (131, (.iload_n 2, 132, 0, .null, [], [])), (132, (.iaload, 133, 0, .null, [], [])), (133, (.if_icmp .ge 7, 136, 140, .null, [], [])), (136, (.iconst 1, 137, 0, .int (1), [], [])), (137, (.goto 4, 140, 141, .null, [], [])), (140, (.iconst 0, 141, 0, .int (0), [], [])), (141, (.putfield 309, 144, 0, .int 0, [], [(10, 45)])), (144, (.aload_n 0, 145, 0, .null, [], [])), (145, (.aload_n 0, 146, 0, .null, [], [])), (146, (.getfield 309, 149, 0, .null, [], [(10, 45)])), (149, (.ifCond .eq 22, 152, 171, .null, [], [])), (152, (.aload_n 0, 153, 0, .null, [], [])), (153, (.getfield 16, 156, 0, .null, [], [(10, 2)])), (156, (.bipush 60, 158, 0, .int (60), [], [])), (158, (.iload_n 2, 159, 0, .null, [], [])), (159, (.imul, 160, 0, .null, [], [])), (160, (.aload_n 0, 161, 0, .null, [], [])), (161, (.getfield 79, 164, 0, .null, [], [(10, 33)])), (164, (.iload_n 1, 165, 0, .null, [], [])), (165, (.iaload, 166, 0, .null, [], [])), (166, (.iadd, 167, 0, .null, [], [])), (167, (.iaload, 168, 0, .null, [], [])), (168, (.goto 4, 171, 172, .null, [], [])), (171, (.iconst 0, 172, 0, .int (0), [], [])), (172, (.putfield 312, 175, 0, .null, [], [(10, 46)])), (175, (.aload_n 0, 176, 0, .null, [], [])), (176, (.getfield 7, 179, 0, .null, [], [(10, 0)])), (179, (.iload_n 2, 180, 0, .null, [], [])), (180, (.iaload, 181, 0, .null, [], [])), (181, (.ifCond .ge 87, 184, 268, .null, [], [])), (184, (.aload_n 0, 185, 0, .null, [], [])), (185, (.iconst 2, 186, 0, .int (2), [], [])), (186, (.iload_n 1, 187, 0, .null, [], [])), (187, (.invokevirtual 306, 190, 0, .null, [], [])), (190, (.goto 78, 193, 268, .null, [], [])), (193, (.aload_n 0, 194, 0, .null, [], [])), (194, (.aload_n 0, 195, 0, .null, [], [])), (195, (.getfield 79, 198, 0, .null, [], [(10, 33)])), (198, (.iload_n 1, 199, 0, .null, [], [])), (199, (.iaload, 200, 0, .null, [], [])), (200, (.aload_n 0, 201, 0, .null, [], [])), (201, (.getfield 82, 204, 0, .null, [], [(10, 34)])), (204, (.aload_n 0, 205, 0, .null, [], [])), (205, (.getfield 67, 208, 0, .null, [], [(10, 27)])), (208, (.iload_n 1, 209, 0, .null, [], [])), (209, (.iaload, 210, 0, .null, [], [])), (210, (.iaload, 211, 0, .null, [], [])), (211, (.if_icmp .ge 7, 214, 218, .null, [], [])), (214, (.iconst 1, 215, 0, .int (1), [], [])), (215, (.goto 4, 218, 219, .null, [], [])), (218, (.iconst 0, 219, 0, .int (0), [], [])), (219, (.putfield 309, 222, 0, .int 0, [], [(10, 45)])), (222, (.aload_n 0, 223, 0, .null, [], [])), (223, (.aload_n 0, 224, 0, .null, [], [])), (224, (.getfield 79, 227, 0, .null, [], [(10, 33)])), (227, (.iload_n 1, 228, 0, .null, [], [])), (228, (.iaload, 229, 0, .null, [], [])), (229, (.putfield 312, 232, 0, .null, [], [(10, 46)])), (232, (.goto 36, 235, 268, .null, [], [])), (235, (.aload_n 0, 236, 0, .null, [], [])), (236, (.aload_n 0, 237, 0, .null, [], [])), (237, (.getfield 79, 240, 0, .null, [], [(10, 33)])), (240, (.iload_n 1, 241, 0, .null, [], [])), (241, (.iaload, 242, 0, .null, [], [])), (242, (.ifCond .ne 7, 245, 249, .null, [], [])), (245, (.iconst 1, 246, 0, .int (1), [], [])), (246, (.goto 4, 249, 250, .null, [], [])), (249, (.iconst 0, 250, 0, .int (0), [], [])), (250, (.putfield 309, 253, 0, .int 0, [], [(10, 45)])), (253, (.aload_n 0, 254, 0, .null, [], [])), (254, (.aload_n 0, 255, 0, .null, [], [])), (255, (.getfield 82, 258, 0, .null, [], [(10, 34)])), (258, (.aload_n 0, 259, 0, .null, [], [])), (259, (.getfield 67, 262, 0, .null, [], [(10, 27)])), (262, (.iload_n 1, 263, 0, .null, [], [])), (263, (.iaload, 264, 0, .null, [], [])), (264, (.iaload, 265, 0, .null, [], [])), (265, (.putfield 312, 268, 0, .null, [], [(10, 46)])), (268, (.aload_n 0, 269, 0, .null, [], [])), (269, (.getfield 294, 272, 0, .null, [], [(10, 35)])), (272, (.ifCond .ne 47, 275, 319, .null, [], [])), (275, (.aload_n 0, 276, 0, .null, [], [])), (276, (.getfield 309, 279, 0, .null, [], [(10, 45)])), (279, (.ifCond .eq 40, 282, 319, .null, [], [])), (282, (.aload_n 0, 283, 0, .null, [], [])), (283, (.invokevirtual 315, 286, 0, .null, [], [])), (286, (.ifCond .eq 33, 289, 319, .null, [], [])), (289, (.aload_n 0, 290, 0, .null, [], [])), (290, (.getfield 79, 293, 0, .null, [], [(10, 33)])), (293, (.iload_n 1, 294, 0, .null, [], [])), (294, (.dup2, 295, 0, .null, [], [])), (295, (.iaload, 296, 0, .null, [], [])), (296, (.aload_n 0, 297, 0, .null, [], [])), (297, (.getfield 40, 300, 0, .null, [], [(10, 17)])), (300, (.iload_n 1, 301, 0, .null, [], [])), (301, (.iaload, 302, 0, .null, [], [])), (302, (.bipush 105, 304, 0, .int (105), [], [])), (304, (.if_icmp .ne 12, 307, 316, .null, [], [])), (307, (.aload_n 0, 308, 0, .null, [], [])), (308, (.getfield 49, 311, 0, .null, [], [(10, 20)])), (311, (.iload_n 1, 312, 0, .null, [], [])), (312, (.iaload, 313, 0, .null, [], [])), (313, (.goto 4, 316, 317, .null, [], [])), (316, (.iconst 1, 317, 0, .int (1), [], [])), (317, (.iadd, 318, 0, .null, [], [])), (318, (.iastore, 319, 0, .null, [], [])), (319, (.return_, 320, 0, .null, [], []))]
noncomputable abbrev jX12_gives : List (Nat × sf_J sf_S) := [(187, sf_jV sf_layM [10] 3 gX12_fails), (283, sf_jI sf_layM [10] 1 gX12_draws)]
abbrev wX12_gives_268 {ρ : Type} (k : Int32 → sf_S → Option ρ) : sf_M ρ := fun L st σ => sf_lda L 0 fun a0 => sf_eq a0 0 (sf_ldi L 1 fun x1 => sf_nil st (k x1 σ))
theorem wX12_gives_268_ok {ρ : Type} {Wt : Nat → sf_L → List Value → sf_S → Prop} {Post : ρ → Prop} (hm : sf_mono Wt) {k : Int32 → sf_S → Option ρ} (h : ∀ (x1 : Int32) (σ : sf_S) (u : ρ), k x1 σ = some u → Post u → Wt 268 [(0, some (.ref 0)), (1, some (.int x1))] [] σ) : sf_CK Wt Post 268 (wX12_gives_268 k) := by
  intro L st σ u hf hp
  unfold wX12_gives_268 at hf
  have hf0 := hf
  obtain ⟨a0, e0, hf1⟩ := sf_lda_inv hf0
  obtain ⟨rfl, hf2⟩ := sf_eq_inv hf1
  obtain ⟨x1, e1, hf3⟩ := sf_ldi_inv hf2
  obtain ⟨rfl, hz⟩ := sf_nil_inv hf3
  exact hm _ [(0, some (.ref _)), (1, some (.int x1))] _ _ _ (sf_le_ok (And.intro e0 (And.intro e1 trivial))) (h _ _ _ hz hp)
abbrev wX12_gives_250 {ρ : Type} (k : Int32 → Int32 → sf_S → Option ρ) : sf_M ρ := fun L st σ => sf_lda L 0 fun a0 => sf_eq a0 0 (sf_ldi L 1 fun x1 => sf_i1 st fun y0 st => sf_a1 st fun b1 st => sf_eq b1 0 (sf_nil st (k x1 y0 σ)))
theorem wX12_gives_250_ok {ρ : Type} {Wt : Nat → sf_L → List Value → sf_S → Prop} {Post : ρ → Prop} (hm : sf_mono Wt) {k : Int32 → Int32 → sf_S → Option ρ} (h : ∀ (x1 : Int32) (y0 : Int32) (σ : sf_S) (u : ρ), k x1 y0 σ = some u → Post u → Wt 250 [(0, some (.ref 0)), (1, some (.int x1))] [.int y0, .ref 0] σ) : sf_CK Wt Post 250 (wX12_gives_250 k) := by
  intro L st σ u hf hp
  unfold wX12_gives_250 at hf
  have hf0 := hf
  obtain ⟨a0, e0, hf1⟩ := sf_lda_inv hf0
  obtain ⟨rfl, hf2⟩ := sf_eq_inv hf1
  obtain ⟨x1, e1, hf3⟩ := sf_ldi_inv hf2
  obtain ⟨y0, st, rfl, hf4⟩ := sf_i1_inv hf3
  obtain ⟨b1, st, rfl, hf5⟩ := sf_a1_inv hf4
  obtain ⟨rfl, hf6⟩ := sf_eq_inv hf5
  obtain ⟨rfl, hz⟩ := sf_nil_inv hf6
  exact hm _ [(0, some (.ref _)), (1, some (.int x1))] _ _ _ (sf_le_ok (And.intro e0 (And.intro e1 trivial))) (h _ _ _ _ hz hp)
abbrev wX12_gives_172 {ρ : Type} (k : Int32 → Int32 → Int32 → sf_S → Option ρ) : sf_M ρ := fun L st σ => sf_lda L 0 fun a0 => sf_eq a0 0 (sf_ldi L 1 fun x1 => sf_ldi L 2 fun x2 => sf_i1 st fun y0 st => sf_a1 st fun b1 st => sf_eq b1 0 (sf_nil st (k x1 x2 y0 σ)))
theorem wX12_gives_172_ok {ρ : Type} {Wt : Nat → sf_L → List Value → sf_S → Prop} {Post : ρ → Prop} (hm : sf_mono Wt) {k : Int32 → Int32 → Int32 → sf_S → Option ρ} (h : ∀ (x1 : Int32) (x2 : Int32) (y0 : Int32) (σ : sf_S) (u : ρ), k x1 x2 y0 σ = some u → Post u → Wt 172 [(0, some (.ref 0)), (1, some (.int x1)), (2, some (.int x2))] [.int y0, .ref 0] σ) : sf_CK Wt Post 172 (wX12_gives_172 k) := by
  intro L st σ u hf hp
  unfold wX12_gives_172 at hf
  have hf0 := hf
  obtain ⟨a0, e0, hf1⟩ := sf_lda_inv hf0
  obtain ⟨rfl, hf2⟩ := sf_eq_inv hf1
  obtain ⟨x1, e1, hf3⟩ := sf_ldi_inv hf2
  obtain ⟨x2, e2, hf4⟩ := sf_ldi_inv hf3
  obtain ⟨y0, st, rfl, hf5⟩ := sf_i1_inv hf4
  obtain ⟨b1, st, rfl, hf6⟩ := sf_a1_inv hf5
  obtain ⟨rfl, hf7⟩ := sf_eq_inv hf6
  obtain ⟨rfl, hz⟩ := sf_nil_inv hf7
  exact hm _ [(0, some (.ref _)), (1, some (.int x1)), (2, some (.int x2))] _ _ _ (sf_le_ok (And.intro e0 (And.intro e1 (And.intro e2 trivial)))) (h _ _ _ _ _ hz hp)
abbrev wX12_gives_141 {ρ : Type} (k : Int32 → Int32 → Int32 → sf_S → Option ρ) : sf_M ρ := fun L st σ => sf_lda L 0 fun a0 => sf_eq a0 0 (sf_ldi L 1 fun x1 => sf_ldi L 2 fun x2 => sf_i1 st fun y0 st => sf_a1 st fun b1 st => sf_eq b1 0 (sf_nil st (k x1 x2 y0 σ)))
theorem wX12_gives_141_ok {ρ : Type} {Wt : Nat → sf_L → List Value → sf_S → Prop} {Post : ρ → Prop} (hm : sf_mono Wt) {k : Int32 → Int32 → Int32 → sf_S → Option ρ} (h : ∀ (x1 : Int32) (x2 : Int32) (y0 : Int32) (σ : sf_S) (u : ρ), k x1 x2 y0 σ = some u → Post u → Wt 141 [(0, some (.ref 0)), (1, some (.int x1)), (2, some (.int x2))] [.int y0, .ref 0] σ) : sf_CK Wt Post 141 (wX12_gives_141 k) := by
  intro L st σ u hf hp
  unfold wX12_gives_141 at hf
  have hf0 := hf
  obtain ⟨a0, e0, hf1⟩ := sf_lda_inv hf0
  obtain ⟨rfl, hf2⟩ := sf_eq_inv hf1
  obtain ⟨x1, e1, hf3⟩ := sf_ldi_inv hf2
  obtain ⟨x2, e2, hf4⟩ := sf_ldi_inv hf3
  obtain ⟨y0, st, rfl, hf5⟩ := sf_i1_inv hf4
  obtain ⟨b1, st, rfl, hf6⟩ := sf_a1_inv hf5
  obtain ⟨rfl, hf7⟩ := sf_eq_inv hf6
  obtain ⟨rfl, hz⟩ := sf_nil_inv hf7
  exact hm _ [(0, some (.ref _)), (1, some (.int x1)), (2, some (.int x2))] _ _ _ (sf_le_ok (And.intro e0 (And.intro e1 (And.intro e2 trivial)))) (h _ _ _ _ _ hz hp)
noncomputable def dX12_gives_268 (x1 : Int32) (σ : sf_S) : Option sf_S :=
  if ¬ (σ 0 35) = 0 then
    some σ
  else
    if (σ 0 45) = 0 then
      some σ
    else
      (dX12_draws σ).bind fun u1 =>
      if u1.1 = 0 then
        some u1.2
      else
        if sf_in x1 40 then
          if sf_in x1 40 then
            if ¬ (u1.2 11 x1.toNatClampNeg) = (105 : Int32) then
              if sf_in x1 40 then
                let s2 := sf_up u1.2 24 x1.toNatClampNeg ((u1.2 24 x1.toNatClampNeg) + (1 : Int32))
                some s2
              else
                none
            else
              if sf_in x1 40 then
                if sf_in x1 40 then
                  let s3 := sf_up u1.2 24 x1.toNatClampNeg ((u1.2 24 x1.toNatClampNeg) + (u1.2 14 x1.toNatClampNeg))
                  some s3
                else
                  none
              else
                none
          else
            none
        else
          none
set_option maxRecDepth 100000 in
set_option maxHeartbeats 4000000 in
theorem rX12_gives_268 {Wt : Nat → sf_L → List Value → sf_S → Prop} {Post : sf_S → Prop} (hs : sf_Snd Wt sf_layM sf_hV jX12_gives tX12_gives Post) (hm : sf_mono Wt) : sf_CK Wt Post 268 (wX12_gives_268 (dX12_gives_268)) := by
  refine wX12_gives_268_ok hm ?_
  intro x1 σ u h hp
  exact sf_run_ok hs sf_sm_nil 165 268 _ _ σ u h hp
noncomputable def dX12_gives_250 (x1 : Int32) (y0 : Int32) (σ : sf_S) : Option sf_S :=
  if sf_01 y0 then
    let s1 := sf_up σ 0 45 y0
    if sf_in x1 40 then
      let v2 := (s1 20 x1.toNatClampNeg)
      if sf_in v2 40 then
        let s3 := sf_up s1 0 46 (s1 25 v2.toNatClampNeg)
        dX12_gives_268 x1 s3
      else
        none
    else
      none
  else
    none
set_option maxRecDepth 100000 in
set_option maxHeartbeats 4000000 in
theorem rX12_gives_250 {Wt : Nat → sf_L → List Value → sf_S → Prop} {Post : sf_S → Prop} (hs : sf_Snd Wt sf_layM sf_hV jX12_gives tX12_gives Post) (hm : sf_mono Wt) : sf_CK Wt Post 250 (wX12_gives_250 (dX12_gives_250)) := by
  refine wX12_gives_250_ok hm ?_
  intro x1 y0 σ u h hp
  exact sf_run_ok hs (sf_sm_cons (rX12_gives_268 hs hm) sf_sm_nil) 165 250 _ _ σ u h hp
noncomputable def dX12_gives_172 (x1 : Int32) (x2 : Int32) (y0 : Int32) (σ : sf_S) : Option sf_S :=
  let s1 := sf_up σ 0 46 y0
  if sf_in x2 4 then
    if 0 ≤ (s1 1 x2.toNatClampNeg) then
      dX12_gives_268 x1 s1
    else
      (dX12_fails (2 : Int32) x1 s1).bind fun u2 =>
      dX12_gives_268 x1 u2
  else
    none
set_option maxRecDepth 100000 in
set_option maxHeartbeats 4000000 in
theorem rX12_gives_172 {Wt : Nat → sf_L → List Value → sf_S → Prop} {Post : sf_S → Prop} (hs : sf_Snd Wt sf_layM sf_hV jX12_gives tX12_gives Post) (hm : sf_mono Wt) : sf_CK Wt Post 172 (wX12_gives_172 (dX12_gives_172)) := by
  refine wX12_gives_172_ok hm ?_
  intro x1 x2 y0 σ u h hp
  exact sf_run_ok hs (sf_sm_cons (rX12_gives_268 hs hm) sf_sm_nil) 165 172 _ _ σ u h hp
noncomputable def dX12_gives_141 (x1 : Int32) (x2 : Int32) (y0 : Int32) (σ : sf_S) : Option sf_S :=
  if sf_01 y0 then
    let s1 := sf_up σ 0 45 y0
    if (s1 0 45) = 0 then
      dX12_gives_172 x1 x2 (0 : Int32) s1
    else
      if sf_in x1 40 then
        let v2 := (((60 : Int32) * x2) + (s1 24 x1.toNatClampNeg))
        if sf_in v2 240 then
          dX12_gives_172 x1 x2 (s1 3 v2.toNatClampNeg) s1
        else
          none
      else
        none
  else
    none
set_option maxRecDepth 100000 in
set_option maxHeartbeats 4000000 in
theorem rX12_gives_141 {Wt : Nat → sf_L → List Value → sf_S → Prop} {Post : sf_S → Prop} (hs : sf_Snd Wt sf_layM sf_hV jX12_gives tX12_gives Post) (hm : sf_mono Wt) : sf_CK Wt Post 141 (wX12_gives_141 (dX12_gives_141)) := by
  refine wX12_gives_141_ok hm ?_
  intro x1 x2 y0 σ u h hp
  exact sf_run_ok hs (sf_sm_cons (rX12_gives_172 hs hm) sf_sm_nil) 165 141 _ _ σ u h hp
noncomputable def dX12_gives (x1 : Int32) (σ : sf_S) : Option sf_S :=
  if sf_in x1 40 then
    let v1 := (σ 12 x1.toNatClampNeg)
    if sf_in x1 40 then
      let v2 := (σ 11 x1.toNatClampNeg)
      if v2 = (105 : Int32) then
        let s3 := sf_up σ 0 45 (1 : Int32)
        if sf_in x1 40 then
          let s4 := sf_up s3 0 46 (s3 24 x1.toNatClampNeg)
          dX12_gives_268 x1 s4
        else
          none
      else
      if v2 = (114 : Int32) then
        if sf_in x1 40 then
          if sf_in x1 40 then
            if (σ 14 x1.toNatClampNeg) ≤ (σ 24 x1.toNatClampNeg) then
              let s5 := sf_up σ 0 45 (0 : Int32)
              if sf_in x1 40 then
                let s6 := sf_up s5 0 46 (s5 24 x1.toNatClampNeg)
                dX12_gives_268 x1 s6
              else
                none
            else
              let s7 := sf_up σ 0 45 (1 : Int32)
              if sf_in x1 40 then
                let s8 := sf_up s7 0 46 (s7 24 x1.toNatClampNeg)
                dX12_gives_268 x1 s8
              else
                none
          else
            none
        else
          none
      else
      if v2 = (115 : Int32) then
        if sf_in v1 4 then
          if (σ 1 v1.toNatClampNeg) < 0 then
            dX12_gives_141 x1 v1 (0 : Int32) σ
          else
            if sf_in x1 40 then
              if sf_in v1 4 then
                if (σ 2 v1.toNatClampNeg) ≤ (σ 24 x1.toNatClampNeg) then
                  dX12_gives_141 x1 v1 (0 : Int32) σ
                else
                  dX12_gives_141 x1 v1 (1 : Int32) σ
              else
                none
            else
              none
        else
          none
      else
      if v2 = (117 : Int32) then
        if sf_in x1 40 then
          if sf_in x1 40 then
            let v9 := (σ 20 x1.toNatClampNeg)
            if sf_in v9 40 then
              if (σ 25 v9.toNatClampNeg) ≤ (σ 24 x1.toNatClampNeg) then
                let s10 := sf_up σ 0 45 (0 : Int32)
                if sf_in x1 40 then
                  let s11 := sf_up s10 0 46 (s10 24 x1.toNatClampNeg)
                  dX12_gives_268 x1 s11
                else
                  none
              else
                let s12 := sf_up σ 0 45 (1 : Int32)
                if sf_in x1 40 then
                  let s13 := sf_up s12 0 46 (s12 24 x1.toNatClampNeg)
                  dX12_gives_268 x1 s13
                else
                  none
            else
              none
          else
            none
        else
          none
      else
        if sf_in x1 40 then
          if ¬ (σ 24 x1.toNatClampNeg) = 0 then
            dX12_gives_250 x1 (0 : Int32) σ
          else
            dX12_gives_250 x1 (1 : Int32) σ
        else
          none
    else
      none
  else
    none
noncomputable abbrev gX12_gives (av : List Value) (σ : sf_S) : Option sf_S := match av with
  | [.ref q, .int x1] => (match sf_rv [0] q with | true => dX12_gives x1 σ | false => none)
  | _ => none
set_option maxRecDepth 100000 in
set_option maxHeartbeats 4000000 in
theorem rX12_gives {Wt : Nat → sf_L → List Value → sf_S → Prop} {Post : sf_S → Prop} (hs : sf_Snd Wt sf_layM sf_hV jX12_gives tX12_gives Post) (hm : sf_mono Wt) : ∀ av σ u, gX12_gives av σ = some u → Post u → (∀ ad, (lg_sl (av.map (sf_v ad))).length ≤ 3) ∧ Wt 0 (sf_ent 0 av) [] σ := by
  intro av σ u h hp
  unfold gX12_gives at h
  split at h
  · rename_i q x1
    split at h
    · rename_i hq
      have hq : q = 0 := by simpa using sf_rv_mem hq
      subst hq
      refine ⟨fun ad => Nat.le_of_ble_eq_true rfl, ?_⟩
      exact sf_run_ok hs (sf_sm_cons (rX12_gives_141 hs hm) (sf_sm_cons (rX12_gives_250 hs hm) (sf_sm_cons (rX12_gives_268 hs hm) sf_sm_nil))) 165 0 _ _ σ u h hp
    · cases h
  · cases h
theorem kX12_gives (l : Launch) : sf_C l sf_layM yX12_gives cX12_gives 3 none (sf_rm 3 142) (fun av σ => (gX12_gives av σ).map sf_vV) :=
  sf_met (tab := tX12_gives) (J := jX12_gives) (fl := sf_fl12) (cl := sf_cl12) (by decide +kernel) ⟨rfl, rfl⟩ sf_RH_V (by decide +kernel) sf_fl12_ok sf_cl12_ok
    (sf_JO_cons (sf_je_V (n := 3) (cs := [10]) (tv := sf_vV) (kX12_fails l) mwX12_fails (by decide +kernel : decode cX12_gives 187 = .ok (.invokevirtual 306, 3)) wt_1595 wt_1597 wt_116 (by decide +kernel) (by decide) (by decide) (List.forall_mem_cons.mpr ⟨⟨_, _, rfl⟩, fun _ h => absurd h List.not_mem_nil⟩) (sf_RM_of (by omega) (by omega))) (sf_JO_cons (sf_je_V (n := 1) (cs := [10]) (tv := sf_vI) (kX12_draws l) mwX12_draws (by decide +kernel : decode cX12_gives 283 = .ok (.invokevirtual 315, 3)) wt_1608 wt_1610 wt_119 (by decide +kernel) (by decide) (by decide) (List.forall_mem_cons.mpr ⟨⟨_, _, rfl⟩, fun _ h => absurd h List.not_mem_nil⟩) (sf_RM_of (by omega) (by omega))) (sf_JO_nil)))
    (fun Wt Post hs hm => rX12_gives hs hm)
-- ===== StreamFuserModel.made(II)I =====
abbrev tX12_made : List (Nat × sf_E) := [(0, (.aload_n 0, 1, 0, .null, [], [])), (1, (.getfield 46, 4, 0, .null, [], [(10, 19)])), (4, (.iload_n 1, 5, 0, .null, [], [])), (5, (.iaload, 6, 0, .null, [], [])), (6, (.istore_n 3, 7, 0, .null, [], [])), (7, (.aload_n 0, 8, 0, .null, [], [])), (8, (.getfield 40, 11, 0, .null, [], [(10, 17)])), (11, (.iload_n 1, 12, 0, .null, [], [])), (12, (.iaload, 13, 0, .null, [], [])), (13, (.lookupswitch 108 #[(37, 75), (42, 55), (43, 51), (47, 59), (108, 95)], 64, 121, .null, [((37), 88), ((42), 68), ((43), 64), ((47), 72), ((108), 108)], [])), (64, (.iload_n 2, 65, 0, .null, [], [])), (65, (.iload_n 3, 66, 0, .null, [], [])), (66, (.iadd, 67, 0, .null, [], [])), (67, (.ireturn, 68, 0, .null, [], [])), (68, (.iload_n 2, 69, 0, .null, [], [])), (69, (.iload_n 3, 70, 0, .null, [], [])), (70, (.imul, 71, 0, .null, [], [])), (71, (.ireturn, 72, 0, .null, [], [])), (72, (.iload_n 2, 73, 0, .null, [], [])), (73, (.ifCond .ne 11, 76, 84, .null, [], [])), (76, (.aload_n 0, 77, 0, .null, [], [])), (77, (.iconst 1, 78, 0, .int (1), [], [])), (78, (.iload_n 1, 79, 0, .null, [], [])), (79, (.invokevirtual 306, 82, 0, .null, [], [])), (82, (.iconst 0, 83, 0, .int (0), [], [])), (83, (.ireturn, 84, 0, .null, [], [])), (84, (.iload_n 3, 85, 0, .null, [], [])), (85, (.iload_n 2, 86, 0, .null, [], [])), (86, (.idiv, 87, 0, .null, [], [])), (87, (.ireturn, 88, 0, .null, [], [])), (88, (.iload_n 2, 89, 0, .null, [], [])), (89, (.iload_n 3, 90, 0, .null, [], [])), (90, (.irem, 91, 0, .null, [], [])), (91, (.istore 4, 93, 0, .null, [], [])), (93, (.iload 4, 95, 0, .null, [], [])), (95, (.ifCond .ge 10, 98, 105, .null, [], [])), (98, (.iload 4, 100, 0, .null, [], [])), (100, (.iload_n 3, 101, 0, .null, [], [])), (101, (.iadd, 102, 0, .null, [], [])), (102, (.goto 5, 105, 107, .null, [], [])), (105, (.iload 4, 107, 0, .null, [], [])), (107, (.ireturn, 108, 0, .null, [], [])), (108, (.aload_n 0, 109, 0, .null, [], [])), (109, (.aload_n 0, 110, 0, .null, [], [])), (110, (.getfield 43, 113, 0, .null, [], [(10, 18)])), (113, (.iload_n 1, 114, 0, .null, [], [])), (114, (.iaload, 115, 0, .null, [], [])), (115, (.iload_n 2, 116, 0, .null, [], [])), (116, (.invokevirtual 319, 119, 0, .null, [], [])), (119, (.iload_n 2, 120, 0, .null, [], [])), (120, (.ireturn, 121, 0, .null, [], [])), (121, (.iload_n 2, 122, 0, .null, [], [])), (122, (.ireturn, 123, 0, .null, [], []))]
noncomputable abbrev jX12_made : List (Nat × sf_J (Int32 × sf_S)) := [(79, sf_jV sf_layM [10] 3 gX12_fails), (116, sf_jV sf_layM [10] 3 gX12_writesDown)]
noncomputable def dX12_made (x1 : Int32) (x2 : Int32) (σ : sf_S) : Option (Int32 × sf_S) :=
  if sf_in x1 40 then
    let v1 := (σ 13 x1.toNatClampNeg)
    if sf_in x1 40 then
      let v2 := (σ 11 x1.toNatClampNeg)
      if v2 = (37 : Int32) then
        if v1 = 0 then
          none
        else
          let v3 := (x2 - x2 / v1 * v1)
          if 0 ≤ v3 then
            some (v3, σ)
          else
            some ((v3 + v1), σ)
      else
      if v2 = (42 : Int32) then
        some ((x2 * v1), σ)
      else
      if v2 = (43 : Int32) then
        some ((x2 + v1), σ)
      else
      if v2 = (47 : Int32) then
        if ¬ x2 = 0 then
          if x2 = 0 then
            none
          else
            some ((v1 / x2), σ)
        else
          (dX12_fails (1 : Int32) x1 σ).bind fun u4 =>
          some ((0 : Int32), u4)
      else
      if v2 = (108 : Int32) then
        if sf_in x1 40 then
          (dX12_writesDown (σ 12 x1.toNatClampNeg) x2 σ).bind fun u5 =>
          some (x2, u5)
        else
          none
      else
        some (x2, σ)
    else
      none
  else
    none
noncomputable abbrev gX12_made (av : List Value) (σ : sf_S) : Option (Int32 × sf_S) := match av with
  | [.ref q, .int x1, .int x2] => (match sf_rv [0] q with | true => dX12_made x1 x2 σ | false => none)
  | _ => none
set_option maxRecDepth 100000 in
set_option maxHeartbeats 4000000 in
theorem rX12_made {Wt : Nat → sf_L → List Value → sf_S → Prop} {Post : (Int32 × sf_S) → Prop} (hs : sf_Snd Wt sf_layM sf_hI jX12_made tX12_made Post) (hm : sf_mono Wt) : ∀ av σ u, gX12_made av σ = some u → Post u → (∀ ad, (lg_sl (av.map (sf_v ad))).length ≤ 5) ∧ Wt 0 (sf_ent 0 av) [] σ := by
  intro av σ u h hp
  unfold gX12_made at h
  split at h
  · rename_i q x1 x2
    split at h
    · rename_i hq
      have hq : q = 0 := by simpa using sf_rv_mem hq
      subst hq
      refine ⟨fun ad => Nat.le_of_ble_eq_true rfl, ?_⟩
      exact sf_run_ok hs sf_sm_nil 58 0 _ _ σ u h hp
    · cases h
  · cases h
theorem kX12_made (l : Launch) : sf_C l sf_layM yX12_made cX12_made 5 (some .int) (sf_rm 2 122) (fun av σ => (gX12_made av σ).map sf_vI) :=
  sf_met (tab := tX12_made) (J := jX12_made) (fl := sf_fl12) (cl := sf_cl12) (by decide +kernel) ⟨rfl, rfl⟩ sf_RH_I (by decide +kernel) sf_fl12_ok sf_cl12_ok
    (sf_JO_cons (sf_je_V (n := 3) (cs := [10]) (tv := sf_vV) (kX12_fails l) mwX12_fails (by decide +kernel : decode cX12_made 79 = .ok (.invokevirtual 306, 3)) wt_1595 wt_1597 wt_116 (by decide +kernel) (by decide) (by decide) (List.forall_mem_cons.mpr ⟨⟨_, _, rfl⟩, fun _ h => absurd h List.not_mem_nil⟩) (sf_RM_of (by omega) (by omega))) (sf_JO_cons (sf_je_V (n := 3) (cs := [10]) (tv := sf_vV) (kX12_writesDown l) mwX12_writesDown (by decide +kernel : decode cX12_made 116 = .ok (.invokevirtual 319, 3)) wt_1624 wt_1626 wt_123 (by decide +kernel) (by decide) (by decide) (List.forall_mem_cons.mpr ⟨⟨_, _, rfl⟩, fun _ h => absurd h List.not_mem_nil⟩) (sf_RM_of (by omega) (by omega))) (sf_JO_nil)))
    (fun Wt Post hs hm => rX12_made hs hm)
-- ===== StreamFuserModel.passes(II)Z =====
abbrev tX12_passes : List (Nat × sf_E) := [(0, (.aload_n 0, 1, 0, .null, [], [])), (1, (.getfield 46, 4, 0, .null, [], [(10, 19)])), (4, (.iload_n 1, 5, 0, .null, [], [])), (5, (.iaload, 6, 0, .null, [], [])), (6, (.istore_n 3, 7, 0, .null, [], [])), (7, (.aload_n 0, 8, 0, .null, [], [])), (8, (.getfield 40, 11, 0, .null, [], [(10, 17)])), (11, (.iload_n 1, 12, 0, .null, [], [])), (12, (.iaload, 13, 0, .null, [], [])), (13, (.bipush 107, 15, 0, .int (107), [], [])), (15, (.if_icmp .ne 15, 18, 30, .null, [], [])), (18, (.iload_n 2, 19, 0, .null, [], [])), (19, (.iload_n 3, 20, 0, .null, [], [])), (20, (.irem, 21, 0, .null, [], [])), (21, (.ifCond .ne 7, 24, 28, .null, [], [])), (24, (.iconst 1, 25, 0, .int (1), [], [])), (25, (.goto 4, 28, 29, .null, [], [])), (28, (.iconst 0, 29, 0, .int (0), [], [])), (29, (.ireturn, 30, 0, .null, [], [])), (30, (.aload_n 0, 31, 0, .null, [], [])), (31, (.getfield 40, 34, 0, .null, [], [(10, 17)])), (34, (.iload_n 1, 35, 0, .null, [], [])), (35, (.iaload, 36, 0, .null, [], [])), (36, (.bipush 63, 38, 0, .int (63), [], [])), (38, (.if_icmp .eq 16, 41, 54, .null, [], [])), (41, (.aload_n 0, 42, 0, .null, [], [])), (42, (.getfield 40, 45, 0, .null, [], [(10, 17)])), (45, (.iload_n 1, 46, 0, .null, [], [])), (46, (.iaload, 47, 0, .null, [], [])), (47, (.bipush 119, 49, 0, .int (119), [], [])), (49, (.if_icmp .eq 5, 52, 54, .null, [], [])), (52, (.iconst 1, 53, 0, .int (1), [], [])), (53, (.ireturn, 54, 0, .null, [], [])), (54, (.aload_n 0, 55, 0, .null, [], [])), (55, (.getfield 43, 58, 0, .null, [], [(10, 18)])), (58, (.iload_n 1, 59, 0, .null, [], [])), (59, (.iaload, 60, 0, .null, [], [])), (60, (.bipush 60, 62, 0, .int (60), [], [])), (62, (.if_icmp .ne 16, 65, 78, .null, [], [])), (65, (.iload_n 2, 66, 0, .null, [], [])), (66, (.iload_n 3, 67, 0, .null, [], [])), (67, (.if_icmp .ge 7, 70, 74, .null, [], [])), (70, (.iconst 1, 71, 0, .int (1), [], [])), (71, (.goto 41, 74, 112, .null, [], [])), (74, (.iconst 0, 75, 0, .int (0), [], [])), (75, (.goto 37, 78, 112, .null, [], [])), (78, (.aload_n 0, 79, 0, .null, [], [])), (79, (.getfield 43, 82, 0, .null, [], [(10, 18)])), (82, (.iload_n 1, 83, 0, .null, [], [])), (83, (.iaload, 84, 0, .null, [], [])), (84, (.bipush 62, 86, 0, .int (62), [], [])), (86, (.if_icmp .ne 16, 89, 102, .null, [], [])), (89, (.iload_n 2, 90, 0, .null, [], [])), (90, (.iload_n 3, 91, 0, .null, [], [])), (91, (.if_icmp .le 7, 94, 98, .null, [], [])), (94, (.iconst 1, 95, 0, .int (1), [], [])), (95, (.goto 17, 98, 112, .null, [], [])), (98, (.iconst 0, 99, 0, .int (0), [], [])), (99, (.goto 13, 102, 112, .null, [], [])), (102, (.iload_n 2, 103, 0, .null, [], [])), (103, (.iload_n 3, 104, 0, .null, [], [])), (104, (.if_icmp .ne 7, 107, 111, .null, [], [])), (107, (.iconst 1, 108, 0, .int (1), [], [])), (108, (.goto 4, 111, 112, .null, [], [])), (111, (.iconst 0, 112, 0, .int (0), [], [])), (112, (.ireturn, 113, 0, .null, [], []))]
noncomputable abbrev jX12_passes : List (Nat × sf_J (Int32 × sf_S)) := []
abbrev wX12_passes_54 {ρ : Type} (k : Int32 → Int32 → Int32 → sf_S → Option ρ) : sf_M ρ := fun L st σ => sf_lda L 0 fun a0 => sf_eq a0 0 (sf_ldi L 1 fun x1 => sf_ldi L 2 fun x2 => sf_ldi L 3 fun x3 => sf_nil st (k x1 x2 x3 σ))
theorem wX12_passes_54_ok {ρ : Type} {Wt : Nat → sf_L → List Value → sf_S → Prop} {Post : ρ → Prop} (hm : sf_mono Wt) {k : Int32 → Int32 → Int32 → sf_S → Option ρ} (h : ∀ (x1 : Int32) (x2 : Int32) (x3 : Int32) (σ : sf_S) (u : ρ), k x1 x2 x3 σ = some u → Post u → Wt 54 [(0, some (.ref 0)), (1, some (.int x1)), (2, some (.int x2)), (3, some (.int x3))] [] σ) : sf_CK Wt Post 54 (wX12_passes_54 k) := by
  intro L st σ u hf hp
  unfold wX12_passes_54 at hf
  have hf0 := hf
  obtain ⟨a0, e0, hf1⟩ := sf_lda_inv hf0
  obtain ⟨rfl, hf2⟩ := sf_eq_inv hf1
  obtain ⟨x1, e1, hf3⟩ := sf_ldi_inv hf2
  obtain ⟨x2, e2, hf4⟩ := sf_ldi_inv hf3
  obtain ⟨x3, e3, hf5⟩ := sf_ldi_inv hf4
  obtain ⟨rfl, hz⟩ := sf_nil_inv hf5
  exact hm _ [(0, some (.ref _)), (1, some (.int x1)), (2, some (.int x2)), (3, some (.int x3))] _ _ _ (sf_le_ok (And.intro e0 (And.intro e1 (And.intro e2 (And.intro e3 trivial))))) (h _ _ _ _ _ hz hp)
noncomputable def dX12_passes_54 (x1 : Int32) (x2 : Int32) (x3 : Int32) (σ : sf_S) : Option (Int32 × sf_S) :=
  if sf_in x1 40 then
    if ¬ (σ 12 x1.toNatClampNeg) = (60 : Int32) then
      if sf_in x1 40 then
        if ¬ (σ 12 x1.toNatClampNeg) = (62 : Int32) then
          if ¬ x2 = x3 then
            some ((0 : Int32), σ)
          else
            some ((1 : Int32), σ)
        else
          if x2 ≤ x3 then
            some ((0 : Int32), σ)
          else
            some ((1 : Int32), σ)
      else
        none
    else
      if x3 ≤ x2 then
        some ((0 : Int32), σ)
      else
        some ((1 : Int32), σ)
  else
    none
set_option maxRecDepth 100000 in
set_option maxHeartbeats 4000000 in
theorem rX12_passes_54 {Wt : Nat → sf_L → List Value → sf_S → Prop} {Post : (Int32 × sf_S) → Prop} (hs : sf_Snd Wt sf_layM sf_hZ jX12_passes tX12_passes Post) (hm : sf_mono Wt) : sf_CK Wt Post 54 (wX12_passes_54 (dX12_passes_54)) := by
  refine wX12_passes_54_ok hm ?_
  intro x1 x2 x3 σ u h hp
  exact sf_run_ok hs sf_sm_nil 71 54 _ _ σ u h hp
noncomputable def dX12_passes (x1 : Int32) (x2 : Int32) (σ : sf_S) : Option (Int32 × sf_S) :=
  if sf_in x1 40 then
    let v1 := (σ 13 x1.toNatClampNeg)
    if sf_in x1 40 then
      if ¬ (σ 11 x1.toNatClampNeg) = (107 : Int32) then
        if sf_in x1 40 then
          if (σ 11 x1.toNatClampNeg) = (63 : Int32) then
            dX12_passes_54 x1 x2 v1 σ
          else
            if sf_in x1 40 then
              if (σ 11 x1.toNatClampNeg) = (119 : Int32) then
                dX12_passes_54 x1 x2 v1 σ
              else
                some ((1 : Int32), σ)
            else
              none
        else
          none
      else
        if v1 = 0 then
          none
        else
          if ¬ (x2 - x2 / v1 * v1) = 0 then
            some ((0 : Int32), σ)
          else
            some ((1 : Int32), σ)
    else
      none
  else
    none
noncomputable abbrev gX12_passes (av : List Value) (σ : sf_S) : Option (Int32 × sf_S) := match av with
  | [.ref q, .int x1, .int x2] => (match sf_rv [0] q with | true => dX12_passes x1 x2 σ | false => none)
  | _ => none
set_option maxRecDepth 100000 in
set_option maxHeartbeats 4000000 in
theorem rX12_passes {Wt : Nat → sf_L → List Value → sf_S → Prop} {Post : (Int32 × sf_S) → Prop} (hs : sf_Snd Wt sf_layM sf_hZ jX12_passes tX12_passes Post) (hm : sf_mono Wt) : ∀ av σ u, gX12_passes av σ = some u → Post u → (∀ ad, (lg_sl (av.map (sf_v ad))).length ≤ 4) ∧ Wt 0 (sf_ent 0 av) [] σ := by
  intro av σ u h hp
  unfold gX12_passes at h
  split at h
  · rename_i q x1 x2
    split at h
    · rename_i hq
      have hq : q = 0 := by simpa using sf_rv_mem hq
      subst hq
      refine ⟨fun ad => Nat.le_of_ble_eq_true rfl, ?_⟩
      exact sf_run_ok hs (sf_sm_cons (rX12_passes_54 hs hm) sf_sm_nil) 71 0 _ _ σ u h hp
    · cases h
  · cases h
theorem kX12_passes (l : Launch) : sf_C l sf_layM yX12_passes cX12_passes 4 (some .boolean) (sf_rm 1 100) (fun av σ => (gX12_passes av σ).map sf_vI) :=
  sf_met (tab := tX12_passes) (J := jX12_passes) (fl := sf_fl12) (cl := sf_cl12) (by decide +kernel) ⟨rfl, rfl⟩ sf_RH_Z (by decide +kernel) sf_fl12_ok sf_cl12_ok
    (sf_JO_nil)
    (fun Wt Post hs hm => rX12_passes hs hm)
-- ===== StreamFuserModel.joined(III)I =====
abbrev tX12_joined : List (Nat × sf_E) := [(0, (.aload_n 0, 1, 0, .null, [], [])), (1, (.getfield 43, 4, 0, .null, [], [(10, 18)])), (4, (.iload_n 1, 5, 0, .null, [], [])), (5, (.iaload, 6, 0, .null, [], [])), (6, (.bipush 43, 8, 0, .int (43), [], [])), (8, (.if_icmp .ne 9, 11, 17, .null, [], [])), (11, (.iload_n 2, 12, 0, .null, [], [])), (12, (.iload_n 3, 13, 0, .null, [], [])), (13, (.iadd, 14, 0, .null, [], [])), (14, (.goto 25, 17, 39, .null, [], [])), (17, (.aload_n 0, 18, 0, .null, [], [])), (18, (.getfield 43, 21, 0, .null, [], [(10, 18)])), (21, (.iload_n 1, 22, 0, .null, [], [])), (22, (.iaload, 23, 0, .null, [], [])), (23, (.bipush 42, 25, 0, .int (42), [], [])), (25, (.if_icmp .ne 9, 28, 34, .null, [], [])), (28, (.iload_n 2, 29, 0, .null, [], [])), (29, (.iload_n 3, 30, 0, .null, [], [])), (30, (.imul, 31, 0, .null, [], [])), (31, (.goto 8, 34, 39, .null, [], [])), (34, (.iload_n 2, 35, 0, .null, [], [])), (35, (.iload_n 3, 36, 0, .null, [], [])), (36, (.invokestatic 260, 39, 0, .null, [], [])), (39, (.ireturn, 40, 0, .null, [], []))]
noncomputable abbrev jX12_joined : List (Nat × sf_J (Int32 × sf_S)) := [(36, sf_jI sf_layM [] 2 gX12_lesser)]
noncomputable def dX12_joined (x1 : Int32) (x2 : Int32) (x3 : Int32) (σ : sf_S) : Option (Int32 × sf_S) :=
  if sf_in x1 40 then
    if ¬ (σ 12 x1.toNatClampNeg) = (43 : Int32) then
      if sf_in x1 40 then
        if ¬ (σ 12 x1.toNatClampNeg) = (42 : Int32) then
          (dX12_lesser x2 x3 σ).bind fun u1 =>
          some (u1.1, u1.2)
        else
          some ((x2 * x3), σ)
      else
        none
    else
      some ((x2 + x3), σ)
  else
    none
noncomputable abbrev gX12_joined (av : List Value) (σ : sf_S) : Option (Int32 × sf_S) := match av with
  | [.ref q, .int x1, .int x2, .int x3] => (match sf_rv [0] q with | true => dX12_joined x1 x2 x3 σ | false => none)
  | _ => none
set_option maxRecDepth 100000 in
set_option maxHeartbeats 4000000 in
theorem rX12_joined {Wt : Nat → sf_L → List Value → sf_S → Prop} {Post : (Int32 × sf_S) → Prop} (hs : sf_Snd Wt sf_layM sf_hI jX12_joined tX12_joined Post) (hm : sf_mono Wt) : ∀ av σ u, gX12_joined av σ = some u → Post u → (∀ ad, (lg_sl (av.map (sf_v ad))).length ≤ 4) ∧ Wt 0 (sf_ent 0 av) [] σ := by
  intro av σ u h hp
  unfold gX12_joined at h
  split at h
  · rename_i q x1 x2 x3
    split at h
    · rename_i hq
      have hq : q = 0 := by simpa using sf_rv_mem hq
      subst hq
      refine ⟨fun ad => Nat.le_of_ble_eq_true rfl, ?_⟩
      exact sf_run_ok hs sf_sm_nil 29 0 _ _ σ u h hp
    · cases h
  · cases h
theorem kX12_joined (l : Launch) : sf_C l sf_layM yX12_joined cX12_joined 4 (some .int) (sf_rm 2 121) (fun av σ => (gX12_joined av σ).map sf_vI) :=
  sf_met (tab := tX12_joined) (J := jX12_joined) (fl := sf_fl12) (cl := sf_cl12) (by decide +kernel) ⟨rfl, rfl⟩ sf_RH_I (by decide +kernel) sf_fl12_ok sf_cl12_ok
    (sf_JO_cons (sf_je_S (n := 2) (tv := sf_vI) (kX12_lesser l) mwX12_lesser (by decide +kernel : decode cX12_joined 36 = .ok (.invokestatic 260, 3)) wt_1538 wt_1539 (by decide +kernel) (sf_RM_of (by omega) (by omega))) (sf_JO_nil))
    (fun Wt Post hs hm => rX12_joined hs hm)
-- ===== StreamFuserModel.opensFor(II)V =====
abbrev tX12_opensFor : List (Nat × sf_E) := [(0, (.aload_n 0, 1, 0, .null, [], [])), (1, (.getfield 82, 4, 0, .null, [], [(10, 34)])), (4, (.iload_n 1, 5, 0, .null, [], [])), (5, (.iload_n 2, 6, 0, .null, [], [])), (6, (.iastore, 7, 0, .null, [], [])), (7, (.aload_n 0, 8, 0, .null, [], [])), (8, (.getfield 79, 11, 0, .null, [], [(10, 33)])), (11, (.iload_n 1, 12, 0, .null, [], [])), (12, (.iconst 1, 13, 0, .int (1), [], [])), (13, (.iastore, 14, 0, .null, [], [])), (14, (.aload_n 0, 15, 0, .null, [], [])), (15, (.aload_n 0, 16, 0, .null, [], [])), (16, (.getfield 58, 19, 0, .null, [], [(10, 24)])), (19, (.iload_n 1, 20, 0, .null, [], [])), (20, (.iaload, 21, 0, .null, [], [])), (21, (.aload_n 0, 22, 0, .null, [], [])), (22, (.getfield 52, 25, 0, .null, [], [(10, 22)])), (25, (.aload_n 0, 26, 0, .null, [], [])), (26, (.getfield 58, 29, 0, .null, [], [(10, 24)])), (29, (.iload_n 1, 30, 0, .null, [], [])), (30, (.iaload, 31, 0, .null, [], [])), (31, (.iaload, 32, 0, .null, [], [])), (32, (.invokevirtual 322, 35, 0, .null, [], [])), (35, (.return_, 36, 0, .null, [], []))]
noncomputable abbrev jX12_opensFor : List (Nat × sf_J sf_S) := [(32, sf_jV sf_layM [10] 3 gX12_begins)]
noncomputable def dX12_opensFor (x1 : Int32) (x2 : Int32) (σ : sf_S) : Option sf_S :=
  if sf_in x1 40 then
    let s1 := sf_up σ 25 x1.toNatClampNeg x2
    if sf_in x1 40 then
      let s2 := sf_up s1 24 x1.toNatClampNeg (1 : Int32)
      if sf_in x1 40 then
        if sf_in x1 40 then
          let v3 := (s2 17 x1.toNatClampNeg)
          if sf_in v3 40 then
            (dX12_begins (s2 17 x1.toNatClampNeg) (s2 15 v3.toNatClampNeg) s2).bind fun u4 =>
            some u4
          else
            none
        else
          none
      else
        none
    else
      none
  else
    none
noncomputable abbrev gX12_opensFor (av : List Value) (σ : sf_S) : Option sf_S := match av with
  | [.ref q, .int x1, .int x2] => (match sf_rv [0] q with | true => dX12_opensFor x1 x2 σ | false => none)
  | _ => none
set_option maxRecDepth 100000 in
set_option maxHeartbeats 4000000 in
theorem rX12_opensFor {Wt : Nat → sf_L → List Value → sf_S → Prop} {Post : sf_S → Prop} (hs : sf_Snd Wt sf_layM sf_hV jX12_opensFor tX12_opensFor Post) (hm : sf_mono Wt) : ∀ av σ u, gX12_opensFor av σ = some u → Post u → (∀ ad, (lg_sl (av.map (sf_v ad))).length ≤ 3) ∧ Wt 0 (sf_ent 0 av) [] σ := by
  intro av σ u h hp
  unfold gX12_opensFor at h
  split at h
  · rename_i q x1 x2
    split at h
    · rename_i hq
      have hq : q = 0 := by simpa using sf_rv_mem hq
      subst hq
      refine ⟨fun ad => Nat.le_of_ble_eq_true rfl, ?_⟩
      exact sf_run_ok hs sf_sm_nil 29 0 _ _ σ u h hp
    · cases h
  · cases h
theorem kX12_opensFor (l : Launch) : sf_C l sf_layM yX12_opensFor cX12_opensFor 3 none (sf_rm 2 124) (fun av σ => (gX12_opensFor av σ).map sf_vV) :=
  sf_met (tab := tX12_opensFor) (J := jX12_opensFor) (fl := sf_fl12) (cl := sf_cl12) (by decide +kernel) ⟨rfl, rfl⟩ sf_RH_V (by decide +kernel) sf_fl12_ok sf_cl12_ok
    (sf_JO_cons (sf_je_V (n := 3) (cs := [10]) (tv := sf_vV) (kX12_begins l) mwX12_begins (by decide +kernel : decode cX12_opensFor 32 = .ok (.invokevirtual 322, 3)) wt_1578 wt_1580 wt_112 (by decide +kernel) (by decide) (by decide) (List.forall_mem_cons.mpr ⟨⟨_, _, rfl⟩, fun _ h => absurd h List.not_mem_nil⟩) (sf_RM_of (by omega) (by omega))) (sf_JO_nil))
    (fun Wt Post hs hm => rX12_opensFor hs hm)
-- ===== StreamFuserModel.asksNext(I)I =====
abbrev tX12_asksNext : List (Nat × sf_E) := [(0, (.aload_n 0, 1, 0, .null, [], [])), (1, (.dup, 2, 0, .null, [], [])), (2, (.getfield 325, 5, 0, .null, [], [(10, 38)])), (5, (.iconst 1, 6, 0, .int (1), [], [])), (6, (.iadd, 7, 0, .null, [], [])), (7, (.putfield 325, 10, 0, .null, [], [(10, 38)])), (10, (.aload_n 0, 11, 0, .null, [], [])), (11, (.getfield 40, 14, 0, .null, [], [(10, 17)])), (14, (.iload_n 1, 15, 0, .null, [], [])), (15, (.iaload, 16, 0, .null, [], [])), (16, (.istore_n 2, 17, 0, .null, [], [])), (17, (.iload_n 2, 18, 0, .null, [], [])), (18, (.invokestatic 163, 21, 0, .null, [], [])), (21, (.ifCond .ne 10, 24, 31, .null, [], [])), (24, (.aload_n 0, 25, 0, .null, [], [])), (25, (.iload_n 1, 26, 0, .null, [], [])), (26, (.invokevirtual 328, 29, 0, .null, [], [])), (29, (.iconst (-1), 30, 0, .int (-1), [], [])), (30, (.ireturn, 31, 0, .null, [], [])), (31, (.iload_n 2, 32, 0, .null, [], [])), (32, (.bipush 116, 34, 0, .int (116), [], [])), (34, (.if_icmp .ne 18, 37, 52, .null, [], [])), (37, (.aload_n 0, 38, 0, .null, [], [])), (38, (.getfield 79, 41, 0, .null, [], [(10, 33)])), (41, (.iload_n 1, 42, 0, .null, [], [])), (42, (.iaload, 43, 0, .null, [], [])), (43, (.aload_n 0, 44, 0, .null, [], [])), (44, (.getfield 46, 47, 0, .null, [], [(10, 19)])), (47, (.iload_n 1, 48, 0, .null, [], [])), (48, (.iaload, 49, 0, .null, [], [])), (49, (.if_icmp .eq 19, 52, 68, .null, [], [])), (52, (.iload_n 2, 53, 0, .null, [], [])), (53, (.bipush 119, 55, 0, .int (119), [], [])), (55, (.if_icmp .ne 20, 58, 75, .null, [], [])), (58, (.aload_n 0, 59, 0, .null, [], [])), (59, (.getfield 79, 62, 0, .null, [], [(10, 33)])), (62, (.iload_n 1, 63, 0, .null, [], [])), (63, (.iaload, 64, 0, .null, [], [])), (64, (.iconst 1, 65, 0, .int (1), [], [])), (65, (.if_icmp .ne 10, 68, 75, .null, [], [])), (68, (.aload_n 0, 69, 0, .null, [], [])), (69, (.iconst 0, 70, 0, .int (0), [], [])), (70, (.putfield 309, 73, 0, .int 0, [], [(10, 45)])), (73, (.iconst (-1), 74, 0, .int (-1), [], [])), (74, (.ireturn, 75, 0, .null, [], [])), (75, (.iload_n 2, 76, 0, .null, [], [])), (76, (.bipush 122, 78, 0, .int (122), [], [])), (78, (.if_icmp .ne 10, 81, 88, .null, [], [])), (81, (.aload_n 0, 82, 0, .null, [], [])), (82, (.getfield 79, 85, 0, .null, [], [(10, 33)])), (85, (.iload_n 1, 86, 0, .null, [], [])), (86, (.iconst 0, 87, 0, .int (0), [], [])), (87, (.iastore, 88, 0, .null, [], [])), (88, (.iload_n 2, 89, 0, .null, [], [])), (89, (.bipush 99, 91, 0, .int (99), [], [])), (91, (.if_icmp .eq 9, 94, 100, .null, [], [])), (94, (.iload_n 2, 95, 0, .null, [], [])), (95, (.bipush 120, 97, 0, .int (120), [], [])), (97, (.if_icmp .ne 22, 100, 119, .null, [], [])), (100, (.aload_n 0, 101, 0, .null, [], [])), (101, (.getfield 79, 104, 0, .null, [], [(10, 33)])), (104, (.iload_n 1, 105, 0, .null, [], [])), (105, (.iaload, 106, 0, .null, [], [])), (106, (.iconst 1, 107, 0, .int (1), [], [])), (107, (.if_icmp .ne 12, 110, 119, .null, [], [])), (110, (.aload_n 0, 111, 0, .null, [], [])), (111, (.getfield 58, 114, 0, .null, [], [(10, 24)])), (114, (.iload_n 1, 115, 0, .null, [], [])), (115, (.iaload, 116, 0, .null, [], [])), (116, (.goto 9, 119, 125, .null, [], [])), (119, (.aload_n 0, 120, 0, .null, [], [])), (120, (.getfield 55, 123, 0, .null, [], [(10, 23)])), (123, (.iload_n 1, 124, 0, .null, [], [])), (124, (.iaload, 125, 0, .null, [], [])), (125, (.ireturn, 126, 0, .null, [], []))]
noncomputable abbrev jX12_asksNext : List (Nat × sf_J (Int32 × sf_S)) := [(18, sf_jI sf_layM [] 1 gX12_partsOf), (26, sf_jV sf_layM [10] 2 gX12_gives)]
abbrev wX12_asksNext_100 {ρ : Type} (k : Int32 → sf_S → Option ρ) : sf_M ρ := fun L st σ => sf_lda L 0 fun a0 => sf_eq a0 0 (sf_ldi L 1 fun x1 => sf_nil st (k x1 σ))
theorem wX12_asksNext_100_ok {ρ : Type} {Wt : Nat → sf_L → List Value → sf_S → Prop} {Post : ρ → Prop} (hm : sf_mono Wt) {k : Int32 → sf_S → Option ρ} (h : ∀ (x1 : Int32) (σ : sf_S) (u : ρ), k x1 σ = some u → Post u → Wt 100 [(0, some (.ref 0)), (1, some (.int x1))] [] σ) : sf_CK Wt Post 100 (wX12_asksNext_100 k) := by
  intro L st σ u hf hp
  unfold wX12_asksNext_100 at hf
  have hf0 := hf
  obtain ⟨a0, e0, hf1⟩ := sf_lda_inv hf0
  obtain ⟨rfl, hf2⟩ := sf_eq_inv hf1
  obtain ⟨x1, e1, hf3⟩ := sf_ldi_inv hf2
  obtain ⟨rfl, hz⟩ := sf_nil_inv hf3
  exact hm _ [(0, some (.ref _)), (1, some (.int x1))] _ _ _ (sf_le_ok (And.intro e0 (And.intro e1 trivial))) (h _ _ _ hz hp)
abbrev wX12_asksNext_88 {ρ : Type} (k : Int32 → Int32 → sf_S → Option ρ) : sf_M ρ := fun L st σ => sf_lda L 0 fun a0 => sf_eq a0 0 (sf_ldi L 1 fun x1 => sf_ldi L 2 fun x2 => sf_nil st (k x1 x2 σ))
theorem wX12_asksNext_88_ok {ρ : Type} {Wt : Nat → sf_L → List Value → sf_S → Prop} {Post : ρ → Prop} (hm : sf_mono Wt) {k : Int32 → Int32 → sf_S → Option ρ} (h : ∀ (x1 : Int32) (x2 : Int32) (σ : sf_S) (u : ρ), k x1 x2 σ = some u → Post u → Wt 88 [(0, some (.ref 0)), (1, some (.int x1)), (2, some (.int x2))] [] σ) : sf_CK Wt Post 88 (wX12_asksNext_88 k) := by
  intro L st σ u hf hp
  unfold wX12_asksNext_88 at hf
  have hf0 := hf
  obtain ⟨a0, e0, hf1⟩ := sf_lda_inv hf0
  obtain ⟨rfl, hf2⟩ := sf_eq_inv hf1
  obtain ⟨x1, e1, hf3⟩ := sf_ldi_inv hf2
  obtain ⟨x2, e2, hf4⟩ := sf_ldi_inv hf3
  obtain ⟨rfl, hz⟩ := sf_nil_inv hf4
  exact hm _ [(0, some (.ref _)), (1, some (.int x1)), (2, some (.int x2))] _ _ _ (sf_le_ok (And.intro e0 (And.intro e1 (And.intro e2 trivial)))) (h _ _ _ _ hz hp)
abbrev wX12_asksNext_75 {ρ : Type} (k : Int32 → Int32 → sf_S → Option ρ) : sf_M ρ := fun L st σ => sf_lda L 0 fun a0 => sf_eq a0 0 (sf_ldi L 1 fun x1 => sf_ldi L 2 fun x2 => sf_nil st (k x1 x2 σ))
theorem wX12_asksNext_75_ok {ρ : Type} {Wt : Nat → sf_L → List Value → sf_S → Prop} {Post : ρ → Prop} (hm : sf_mono Wt) {k : Int32 → Int32 → sf_S → Option ρ} (h : ∀ (x1 : Int32) (x2 : Int32) (σ : sf_S) (u : ρ), k x1 x2 σ = some u → Post u → Wt 75 [(0, some (.ref 0)), (1, some (.int x1)), (2, some (.int x2))] [] σ) : sf_CK Wt Post 75 (wX12_asksNext_75 k) := by
  intro L st σ u hf hp
  unfold wX12_asksNext_75 at hf
  have hf0 := hf
  obtain ⟨a0, e0, hf1⟩ := sf_lda_inv hf0
  obtain ⟨rfl, hf2⟩ := sf_eq_inv hf1
  obtain ⟨x1, e1, hf3⟩ := sf_ldi_inv hf2
  obtain ⟨x2, e2, hf4⟩ := sf_ldi_inv hf3
  obtain ⟨rfl, hz⟩ := sf_nil_inv hf4
  exact hm _ [(0, some (.ref _)), (1, some (.int x1)), (2, some (.int x2))] _ _ _ (sf_le_ok (And.intro e0 (And.intro e1 (And.intro e2 trivial)))) (h _ _ _ _ hz hp)
abbrev wX12_asksNext_52 {ρ : Type} (k : Int32 → Int32 → sf_S → Option ρ) : sf_M ρ := fun L st σ => sf_lda L 0 fun a0 => sf_eq a0 0 (sf_ldi L 1 fun x1 => sf_ldi L 2 fun x2 => sf_nil st (k x1 x2 σ))
theorem wX12_asksNext_52_ok {ρ : Type} {Wt : Nat → sf_L → List Value → sf_S → Prop} {Post : ρ → Prop} (hm : sf_mono Wt) {k : Int32 → Int32 → sf_S → Option ρ} (h : ∀ (x1 : Int32) (x2 : Int32) (σ : sf_S) (u : ρ), k x1 x2 σ = some u → Post u → Wt 52 [(0, some (.ref 0)), (1, some (.int x1)), (2, some (.int x2))] [] σ) : sf_CK Wt Post 52 (wX12_asksNext_52 k) := by
  intro L st σ u hf hp
  unfold wX12_asksNext_52 at hf
  have hf0 := hf
  obtain ⟨a0, e0, hf1⟩ := sf_lda_inv hf0
  obtain ⟨rfl, hf2⟩ := sf_eq_inv hf1
  obtain ⟨x1, e1, hf3⟩ := sf_ldi_inv hf2
  obtain ⟨x2, e2, hf4⟩ := sf_ldi_inv hf3
  obtain ⟨rfl, hz⟩ := sf_nil_inv hf4
  exact hm _ [(0, some (.ref _)), (1, some (.int x1)), (2, some (.int x2))] _ _ _ (sf_le_ok (And.intro e0 (And.intro e1 (And.intro e2 trivial)))) (h _ _ _ _ hz hp)
noncomputable def dX12_asksNext_100 (x1 : Int32) (σ : sf_S) : Option (Int32 × sf_S) :=
  if sf_in x1 40 then
    if ¬ (σ 24 x1.toNatClampNeg) = (1 : Int32) then
      if sf_in x1 40 then
        some ((σ 16 x1.toNatClampNeg), σ)
      else
        none
    else
      if sf_in x1 40 then
        some ((σ 17 x1.toNatClampNeg), σ)
      else
        none
  else
    none
set_option maxRecDepth 100000 in
set_option maxHeartbeats 4000000 in
theorem rX12_asksNext_100 {Wt : Nat → sf_L → List Value → sf_S → Prop} {Post : (Int32 × sf_S) → Prop} (hs : sf_Snd Wt sf_layM sf_hI jX12_asksNext tX12_asksNext Post) (hm : sf_mono Wt) : sf_CK Wt Post 100 (wX12_asksNext_100 (dX12_asksNext_100)) := by
  refine wX12_asksNext_100_ok hm ?_
  intro x1 σ u h hp
  exact sf_run_ok hs sf_sm_nil 80 100 _ _ σ u h hp
noncomputable def dX12_asksNext_88 (x1 : Int32) (x2 : Int32) (σ : sf_S) : Option (Int32 × sf_S) :=
  if x2 = (99 : Int32) then
    dX12_asksNext_100 x1 σ
  else
    if ¬ x2 = (120 : Int32) then
      if sf_in x1 40 then
        some ((σ 16 x1.toNatClampNeg), σ)
      else
        none
    else
      dX12_asksNext_100 x1 σ
set_option maxRecDepth 100000 in
set_option maxHeartbeats 4000000 in
theorem rX12_asksNext_88 {Wt : Nat → sf_L → List Value → sf_S → Prop} {Post : (Int32 × sf_S) → Prop} (hs : sf_Snd Wt sf_layM sf_hI jX12_asksNext tX12_asksNext Post) (hm : sf_mono Wt) : sf_CK Wt Post 88 (wX12_asksNext_88 (dX12_asksNext_88)) := by
  refine wX12_asksNext_88_ok hm ?_
  intro x1 x2 σ u h hp
  exact sf_run_ok hs (sf_sm_cons (rX12_asksNext_100 hs hm) sf_sm_nil) 80 88 _ _ σ u h hp
noncomputable def dX12_asksNext_75 (x1 : Int32) (x2 : Int32) (σ : sf_S) : Option (Int32 × sf_S) :=
  if ¬ x2 = (122 : Int32) then
    dX12_asksNext_88 x1 x2 σ
  else
    if sf_in x1 40 then
      let s1 := sf_up σ 24 x1.toNatClampNeg (0 : Int32)
      dX12_asksNext_88 x1 x2 s1
    else
      none
set_option maxRecDepth 100000 in
set_option maxHeartbeats 4000000 in
theorem rX12_asksNext_75 {Wt : Nat → sf_L → List Value → sf_S → Prop} {Post : (Int32 × sf_S) → Prop} (hs : sf_Snd Wt sf_layM sf_hI jX12_asksNext tX12_asksNext Post) (hm : sf_mono Wt) : sf_CK Wt Post 75 (wX12_asksNext_75 (dX12_asksNext_75)) := by
  refine wX12_asksNext_75_ok hm ?_
  intro x1 x2 σ u h hp
  exact sf_run_ok hs (sf_sm_cons (rX12_asksNext_88 hs hm) sf_sm_nil) 80 75 _ _ σ u h hp
noncomputable def dX12_asksNext_52 (x1 : Int32) (x2 : Int32) (σ : sf_S) : Option (Int32 × sf_S) :=
  if ¬ x2 = (119 : Int32) then
    dX12_asksNext_75 x1 x2 σ
  else
    if sf_in x1 40 then
      if ¬ (σ 24 x1.toNatClampNeg) = (1 : Int32) then
        dX12_asksNext_75 x1 x2 σ
      else
        let s1 := sf_up σ 0 45 (0 : Int32)
        some ((-1 : Int32), s1)
    else
      none
set_option maxRecDepth 100000 in
set_option maxHeartbeats 4000000 in
theorem rX12_asksNext_52 {Wt : Nat → sf_L → List Value → sf_S → Prop} {Post : (Int32 × sf_S) → Prop} (hs : sf_Snd Wt sf_layM sf_hI jX12_asksNext tX12_asksNext Post) (hm : sf_mono Wt) : sf_CK Wt Post 52 (wX12_asksNext_52 (dX12_asksNext_52)) := by
  refine wX12_asksNext_52_ok hm ?_
  intro x1 x2 σ u h hp
  exact sf_run_ok hs (sf_sm_cons (rX12_asksNext_75 hs hm) sf_sm_nil) 80 52 _ _ σ u h hp
noncomputable def dX12_asksNext (x1 : Int32) (σ : sf_S) : Option (Int32 × sf_S) :=
  let s1 := sf_up σ 0 38 ((σ 0 38) + (1 : Int32))
  if sf_in x1 40 then
    let v2 := (s1 11 x1.toNatClampNeg)
    (dX12_partsOf v2 s1).bind fun u3 =>
    if ¬ u3.1 = 0 then
      if ¬ v2 = (116 : Int32) then
        dX12_asksNext_52 x1 v2 u3.2
      else
        if sf_in x1 40 then
          if sf_in x1 40 then
            if (u3.2 24 x1.toNatClampNeg) = (u3.2 13 x1.toNatClampNeg) then
              let s4 := sf_up u3.2 0 45 (0 : Int32)
              some ((-1 : Int32), s4)
            else
              dX12_asksNext_52 x1 v2 u3.2
          else
            none
        else
          none
    else
      (dX12_gives x1 u3.2).bind fun u5 =>
      some ((-1 : Int32), u5)
  else
    none
noncomputable abbrev gX12_asksNext (av : List Value) (σ : sf_S) : Option (Int32 × sf_S) := match av with
  | [.ref q, .int x1] => (match sf_rv [0] q with | true => dX12_asksNext x1 σ | false => none)
  | _ => none
set_option maxRecDepth 100000 in
set_option maxHeartbeats 4000000 in
theorem rX12_asksNext {Wt : Nat → sf_L → List Value → sf_S → Prop} {Post : (Int32 × sf_S) → Prop} (hs : sf_Snd Wt sf_layM sf_hI jX12_asksNext tX12_asksNext Post) (hm : sf_mono Wt) : ∀ av σ u, gX12_asksNext av σ = some u → Post u → (∀ ad, (lg_sl (av.map (sf_v ad))).length ≤ 3) ∧ Wt 0 (sf_ent 0 av) [] σ := by
  intro av σ u h hp
  unfold gX12_asksNext at h
  split at h
  · rename_i q x1
    split at h
    · rename_i hq
      have hq : q = 0 := by simpa using sf_rv_mem hq
      subst hq
      refine ⟨fun ad => Nat.le_of_ble_eq_true rfl, ?_⟩
      exact sf_run_ok hs (sf_sm_cons (rX12_asksNext_52 hs hm) sf_sm_nil) 80 0 _ _ σ u h hp
    · cases h
  · cases h
theorem kX12_asksNext (l : Launch) : sf_C l sf_layM yX12_asksNext cX12_asksNext 3 (some .int) (sf_rm 4 164) (fun av σ => (gX12_asksNext av σ).map sf_vI) :=
  sf_met (tab := tX12_asksNext) (J := jX12_asksNext) (fl := sf_fl12) (cl := sf_cl12) (by decide +kernel) ⟨rfl, rfl⟩ sf_RH_I (by decide +kernel) sf_fl12_ok sf_cl12_ok
    (sf_JO_cons (sf_je_S (n := 1) (tv := sf_vI) (kX12_partsOf l) mwX12_partsOf (by decide +kernel : decode cX12_asksNext 18 = .ok (.invokestatic 163, 3)) wt_1431 wt_1432 (by decide +kernel) (sf_RM_of (by omega) (by omega))) (sf_JO_cons (sf_je_V (n := 2) (cs := [10]) (tv := sf_vV) (kX12_gives l) mwX12_gives (by decide +kernel : decode cX12_asksNext 26 = .ok (.invokevirtual 328, 3)) wt_1640 wt_1642 wt_127 (by decide +kernel) (by decide) (by decide) (List.forall_mem_cons.mpr ⟨⟨_, _, rfl⟩, fun _ h => absurd h List.not_mem_nil⟩) (sf_RM_of (by omega) (by omega))) (sf_JO_nil)))
    (fun Wt Post hs hm => rX12_asksNext hs hm)
-- ===== StreamFuserModel.hearsOne(I)I =====
abbrev tX12_hearsOne : List (Nat × sf_E) := [(0, (.aload_n 0, 1, 0, .null, [], [])), (1, (.getfield 309, 4, 0, .null, [], [(10, 45)])), (4, (.ifCond .ne 5, 7, 9, .null, [], [])), (7, (.iconst (-1), 8, 0, .int (-1), [], [])), (8, (.ireturn, 9, 0, .null, [], [])), (9, (.aload_n 0, 10, 0, .null, [], [])), (10, (.getfield 79, 13, 0, .null, [], [(10, 33)])), (13, (.iload_n 1, 14, 0, .null, [], [])), (14, (.iaload, 15, 0, .null, [], [])), (15, (.ifCond .ne 27, 18, 42, .null, [], [])), (18, (.aload_n 0, 19, 0, .null, [], [])), (19, (.getfield 82, 22, 0, .null, [], [(10, 34)])), (22, (.iload_n 1, 23, 0, .null, [], [])), (23, (.aload_n 0, 24, 0, .null, [], [])), (24, (.getfield 312, 27, 0, .null, [], [(10, 46)])), (27, (.iastore, 28, 0, .null, [], [])), (28, (.aload_n 0, 29, 0, .null, [], [])), (29, (.getfield 79, 32, 0, .null, [], [(10, 33)])), (32, (.iload_n 1, 33, 0, .null, [], [])), (33, (.iconst 1, 34, 0, .int (1), [], [])), (34, (.iastore, 35, 0, .null, [], [])), (35, (.aload_n 0, 36, 0, .null, [], [])), (36, (.getfield 58, 39, 0, .null, [], [(10, 24)])), (39, (.iload_n 1, 40, 0, .null, [], [])), (40, (.iaload, 41, 0, .null, [], [])), (41, (.ireturn, 42, 0, .null, [], [])), (42, (.aload_n 0, 43, 0, .null, [], [])), (43, (.aload_n 0, 44, 0, .null, [], [])), (44, (.iload_n 1, 45, 0, .null, [], [])), (45, (.aload_n 0, 46, 0, .null, [], [])), (46, (.getfield 82, 49, 0, .null, [], [(10, 34)])), (49, (.iload_n 1, 50, 0, .null, [], [])), (50, (.iaload, 51, 0, .null, [], [])), (51, (.aload_n 0, 52, 0, .null, [], [])), (52, (.getfield 312, 55, 0, .null, [], [(10, 46)])), (55, (.invokevirtual 343, 58, 0, .null, [], [])), (58, (.putfield 312, 61, 0, .null, [], [(10, 46)])), (61, (.iconst (-1), 62, 0, .int (-1), [], [])), (62, (.ireturn, 63, 0, .null, [], []))]
noncomputable abbrev jX12_hearsOne : List (Nat × sf_J (Int32 × sf_S)) := [(55, sf_jI sf_layM [10] 4 gX12_joined)]
noncomputable def dX12_hearsOne (x1 : Int32) (σ : sf_S) : Option (Int32 × sf_S) :=
  if ¬ (σ 0 45) = 0 then
    if sf_in x1 40 then
      if ¬ (σ 24 x1.toNatClampNeg) = 0 then
        if sf_in x1 40 then
          (dX12_joined x1 (σ 25 x1.toNatClampNeg) (σ 0 46) σ).bind fun u1 =>
          let s2 := sf_up u1.2 0 46 u1.1
          some ((-1 : Int32), s2)
        else
          none
      else
        if sf_in x1 40 then
          let s3 := sf_up σ 25 x1.toNatClampNeg (σ 0 46)
          if sf_in x1 40 then
            let s4 := sf_up s3 24 x1.toNatClampNeg (1 : Int32)
            if sf_in x1 40 then
              some ((s4 17 x1.toNatClampNeg), s4)
            else
              none
          else
            none
        else
          none
    else
      none
  else
    some ((-1 : Int32), σ)
noncomputable abbrev gX12_hearsOne (av : List Value) (σ : sf_S) : Option (Int32 × sf_S) := match av with
  | [.ref q, .int x1] => (match sf_rv [0] q with | true => dX12_hearsOne x1 σ | false => none)
  | _ => none
set_option maxRecDepth 100000 in
set_option maxHeartbeats 4000000 in
theorem rX12_hearsOne {Wt : Nat → sf_L → List Value → sf_S → Prop} {Post : (Int32 × sf_S) → Prop} (hs : sf_Snd Wt sf_layM sf_hI jX12_hearsOne tX12_hearsOne Post) (hm : sf_mono Wt) : ∀ av σ u, gX12_hearsOne av σ = some u → Post u → (∀ ad, (lg_sl (av.map (sf_v ad))).length ≤ 2) ∧ Wt 0 (sf_ent 0 av) [] σ := by
  intro av σ u h hp
  unfold gX12_hearsOne at h
  split at h
  · rename_i q x1
    split at h
    · rename_i hq
      have hq : q = 0 := by simpa using sf_rv_mem hq
      subst hq
      refine ⟨fun ad => Nat.le_of_ble_eq_true rfl, ?_⟩
      exact sf_run_ok hs sf_sm_nil 44 0 _ _ σ u h hp
    · cases h
  · cases h
theorem kX12_hearsOne (l : Launch) : sf_C l sf_layM yX12_hearsOne cX12_hearsOne 2 (some .int) (sf_rm 3 144) (fun av σ => (gX12_hearsOne av σ).map sf_vI) :=
  sf_met (tab := tX12_hearsOne) (J := jX12_hearsOne) (fl := sf_fl12) (cl := sf_cl12) (by decide +kernel) ⟨rfl, rfl⟩ sf_RH_I (by decide +kernel) sf_fl12_ok sf_cl12_ok
    (sf_JO_cons (sf_je_V (n := 4) (cs := [10]) (tv := sf_vI) (kX12_joined l) mwX12_joined (by decide +kernel : decode cX12_hearsOne 55 = .ok (.invokevirtual 343, 3)) wt_1632 wt_1634 wt_125 (by decide +kernel) (by decide) (by decide) (List.forall_mem_cons.mpr ⟨⟨_, _, rfl⟩, fun _ h => absurd h List.not_mem_nil⟩) (sf_RM_of (by omega) (by omega))) (sf_JO_nil))
    (fun Wt Post hs hm => rX12_hearsOne hs hm)
-- ===== StreamFuserModel.hearsOpen(I)I =====
abbrev tX12_hearsOpen : List (Nat × sf_E) := [(0, (.aload_n 0, 1, 0, .null, [], [])), (1, (.getfield 79, 4, 0, .null, [], [(10, 33)])), (4, (.iload_n 1, 5, 0, .null, [], [])), (5, (.iaload, 6, 0, .null, [], [])), (6, (.iconst 1, 7, 0, .int (1), [], [])), (7, (.if_icmp .ne 39, 10, 46, .null, [], [])), (10, (.aload_n 0, 11, 0, .null, [], [])), (11, (.getfield 79, 14, 0, .null, [], [(10, 33)])), (14, (.iload_n 1, 15, 0, .null, [], [])), (15, (.aload_n 0, 16, 0, .null, [], [])), (16, (.getfield 309, 19, 0, .null, [], [(10, 45)])), (19, (.ifCond .eq 7, 22, 26, .null, [], [])), (22, (.iconst 1, 23, 0, .int (1), [], [])), (23, (.goto 4, 26, 27, .null, [], [])), (26, (.iconst 0, 27, 0, .int (0), [], [])), (27, (.iastore, 28, 0, .null, [], [])), (28, (.aload_n 0, 29, 0, .null, [], [])), (29, (.getfield 309, 32, 0, .null, [], [(10, 45)])), (32, (.ifCond .eq 7, 35, 39, .null, [], [])), (35, (.iconst (-1), 36, 0, .int (-1), [], [])), (36, (.goto 9, 39, 45, .null, [], [])), (39, (.aload_n 0, 40, 0, .null, [], [])), (40, (.getfield 55, 43, 0, .null, [], [(10, 23)])), (43, (.iload_n 1, 44, 0, .null, [], [])), (44, (.iaload, 45, 0, .null, [], [])), (45, (.ireturn, 46, 0, .null, [], [])), (46, (.aload_n 0, 47, 0, .null, [], [])), (47, (.getfield 309, 50, 0, .null, [], [(10, 45)])), (50, (.ifCond .eq 19, 53, 69, .null, [], [])), (53, (.aload_n 0, 54, 0, .null, [], [])), (54, (.iload_n 1, 55, 0, .null, [], [])), (55, (.aload_n 0, 56, 0, .null, [], [])), (56, (.getfield 312, 59, 0, .null, [], [(10, 46)])), (59, (.invokevirtual 346, 62, 0, .null, [], [])), (62, (.aload_n 0, 63, 0, .null, [], [])), (63, (.getfield 58, 66, 0, .null, [], [(10, 24)])), (66, (.iload_n 1, 67, 0, .null, [], [])), (67, (.iaload, 68, 0, .null, [], [])), (68, (.ireturn, 69, 0, .null, [], [])), (69, (.iconst (-1), 70, 0, .int (-1), [], [])), (70, (.ireturn, 71, 0, .null, [], []))]
noncomputable abbrev jX12_hearsOpen : List (Nat × sf_J (Int32 × sf_S)) := [(59, sf_jV sf_layM [10] 3 gX12_opensFor)]
abbrev wX12_hearsOpen_27 {ρ : Type} (k : Int32 → Int32 → Int32 → sf_S → Option ρ) : sf_M ρ := fun L st σ => sf_lda L 0 fun a0 => sf_eq a0 0 (sf_ldi L 1 fun x1 => sf_i1 st fun y0 st => sf_i1 st fun y1 st => sf_a1 st fun b2 st => sf_eq b2 24 (sf_nil st (k x1 y0 y1 σ)))
theorem wX12_hearsOpen_27_ok {ρ : Type} {Wt : Nat → sf_L → List Value → sf_S → Prop} {Post : ρ → Prop} (hm : sf_mono Wt) {k : Int32 → Int32 → Int32 → sf_S → Option ρ} (h : ∀ (x1 : Int32) (y0 : Int32) (y1 : Int32) (σ : sf_S) (u : ρ), k x1 y0 y1 σ = some u → Post u → Wt 27 [(0, some (.ref 0)), (1, some (.int x1))] [.int y0, .int y1, .ref 24] σ) : sf_CK Wt Post 27 (wX12_hearsOpen_27 k) := by
  intro L st σ u hf hp
  unfold wX12_hearsOpen_27 at hf
  have hf0 := hf
  obtain ⟨a0, e0, hf1⟩ := sf_lda_inv hf0
  obtain ⟨rfl, hf2⟩ := sf_eq_inv hf1
  obtain ⟨x1, e1, hf3⟩ := sf_ldi_inv hf2
  obtain ⟨y0, st, rfl, hf4⟩ := sf_i1_inv hf3
  obtain ⟨y1, st, rfl, hf5⟩ := sf_i1_inv hf4
  obtain ⟨b2, st, rfl, hf6⟩ := sf_a1_inv hf5
  obtain ⟨rfl, hf7⟩ := sf_eq_inv hf6
  obtain ⟨rfl, hz⟩ := sf_nil_inv hf7
  exact hm _ [(0, some (.ref _)), (1, some (.int x1))] _ _ _ (sf_le_ok (And.intro e0 (And.intro e1 trivial))) (h _ _ _ _ _ hz hp)
noncomputable def dX12_hearsOpen_27 (x1 : Int32) (y0 : Int32) (y1 : Int32) (σ : sf_S) : Option (Int32 × sf_S) :=
  if sf_in y1 40 then
    let s1 := sf_up σ 24 y1.toNatClampNeg y0
    if (s1 0 45) = 0 then
      if sf_in x1 40 then
        some ((s1 16 x1.toNatClampNeg), s1)
      else
        none
    else
      some ((-1 : Int32), s1)
  else
    none
set_option maxRecDepth 100000 in
set_option maxHeartbeats 4000000 in
theorem rX12_hearsOpen_27 {Wt : Nat → sf_L → List Value → sf_S → Prop} {Post : (Int32 × sf_S) → Prop} (hs : sf_Snd Wt sf_layM sf_hI jX12_hearsOpen tX12_hearsOpen Post) (hm : sf_mono Wt) : sf_CK Wt Post 27 (wX12_hearsOpen_27 (dX12_hearsOpen_27)) := by
  refine wX12_hearsOpen_27_ok hm ?_
  intro x1 y0 y1 σ u h hp
  exact sf_run_ok hs sf_sm_nil 46 27 _ _ σ u h hp
noncomputable def dX12_hearsOpen (x1 : Int32) (σ : sf_S) : Option (Int32 × sf_S) :=
  if sf_in x1 40 then
    if ¬ (σ 24 x1.toNatClampNeg) = (1 : Int32) then
      if (σ 0 45) = 0 then
        some ((-1 : Int32), σ)
      else
        (dX12_opensFor x1 (σ 0 46) σ).bind fun u1 =>
        if sf_in x1 40 then
          some ((u1 17 x1.toNatClampNeg), u1)
        else
          none
    else
      if (σ 0 45) = 0 then
        dX12_hearsOpen_27 x1 (0 : Int32) x1 σ
      else
        dX12_hearsOpen_27 x1 (1 : Int32) x1 σ
  else
    none
noncomputable abbrev gX12_hearsOpen (av : List Value) (σ : sf_S) : Option (Int32 × sf_S) := match av with
  | [.ref q, .int x1] => (match sf_rv [0] q with | true => dX12_hearsOpen x1 σ | false => none)
  | _ => none
set_option maxRecDepth 100000 in
set_option maxHeartbeats 4000000 in
theorem rX12_hearsOpen {Wt : Nat → sf_L → List Value → sf_S → Prop} {Post : (Int32 × sf_S) → Prop} (hs : sf_Snd Wt sf_layM sf_hI jX12_hearsOpen tX12_hearsOpen Post) (hm : sf_mono Wt) : ∀ av σ u, gX12_hearsOpen av σ = some u → Post u → (∀ ad, (lg_sl (av.map (sf_v ad))).length ≤ 2) ∧ Wt 0 (sf_ent 0 av) [] σ := by
  intro av σ u h hp
  unfold gX12_hearsOpen at h
  split at h
  · rename_i q x1
    split at h
    · rename_i hq
      have hq : q = 0 := by simpa using sf_rv_mem hq
      subst hq
      refine ⟨fun ad => Nat.le_of_ble_eq_true rfl, ?_⟩
      exact sf_run_ok hs (sf_sm_cons (rX12_hearsOpen_27 hs hm) sf_sm_nil) 46 0 _ _ σ u h hp
    · cases h
  · cases h
theorem kX12_hearsOpen (l : Launch) : sf_C l sf_layM yX12_hearsOpen cX12_hearsOpen 2 (some .int) (sf_rm 3 146) (fun av σ => (gX12_hearsOpen av σ).map sf_vI) :=
  sf_met (tab := tX12_hearsOpen) (J := jX12_hearsOpen) (fl := sf_fl12) (cl := sf_cl12) (by decide +kernel) ⟨rfl, rfl⟩ sf_RH_I (by decide +kernel) sf_fl12_ok sf_cl12_ok
    (sf_JO_cons (sf_je_V (n := 3) (cs := [10]) (tv := sf_vV) (kX12_opensFor l) mwX12_opensFor (by decide +kernel : decode cX12_hearsOpen 59 = .ok (.invokevirtual 346, 3)) wt_1652 wt_1654 wt_130 (by decide +kernel) (by decide) (by decide) (List.forall_mem_cons.mpr ⟨⟨_, _, rfl⟩, fun _ h => absurd h List.not_mem_nil⟩) (sf_RM_of (by omega) (by omega))) (sf_JO_nil))
    (fun Wt Post hs hm => rX12_hearsOpen hs hm)
-- ===== StreamFuserModel.hears(I)I =====
abbrev tX12_hears : List (Nat × sf_E) := [(0, (.aload_n 0, 1, 0, .null, [], [])), (1, (.getfield 40, 4, 0, .null, [], [(10, 17)])), (4, (.iload_n 1, 5, 0, .null, [], [])), (5, (.iaload, 6, 0, .null, [], [])), (6, (.lookupswitch 239 #[(63, 74), (99, 195), (100, 160), (107, 74), (116, 137), (119, 104), (120, 233), (122, 227)], 80, 245, .null, [((63), 80), ((99), 201), ((100), 166), ((107), 80), ((116), 143), ((119), 110), ((120), 239), ((122), 233)], [])), (80, (.aload_n 0, 81, 0, .null, [], [])), (81, (.getfield 309, 84, 0, .null, [], [(10, 45)])), (84, (.ifCond .eq 24, 87, 108, .null, [], [])), (87, (.aload_n 0, 88, 0, .null, [], [])), (88, (.iload_n 1, 89, 0, .null, [], [])), (89, (.aload_n 0, 90, 0, .null, [], [])), (90, (.getfield 312, 93, 0, .null, [], [(10, 46)])), (93, (.invokevirtual 331, 96, 0, .null, [], [])), (96, (.ifCond .ne 12, 99, 108, .null, [], [])), (99, (.aload_n 0, 100, 0, .null, [], [])), (100, (.getfield 55, 103, 0, .null, [], [(10, 23)])), (103, (.iload_n 1, 104, 0, .null, [], [])), (104, (.iaload, 105, 0, .null, [], [])), (105, (.goto 4, 108, 109, .null, [], [])), (108, (.iconst (-1), 109, 0, .int (-1), [], [])), (109, (.ireturn, 110, 0, .null, [], [])), (110, (.aload_n 0, 111, 0, .null, [], [])), (111, (.getfield 309, 114, 0, .null, [], [(10, 45)])), (114, (.ifCond .eq 27, 117, 141, .null, [], [])), (117, (.aload_n 0, 118, 0, .null, [], [])), (118, (.iload_n 1, 119, 0, .null, [], [])), (119, (.aload_n 0, 120, 0, .null, [], [])), (120, (.getfield 312, 123, 0, .null, [], [(10, 46)])), (123, (.invokevirtual 331, 126, 0, .null, [], [])), (126, (.ifCond .ne 15, 129, 141, .null, [], [])), (129, (.aload_n 0, 130, 0, .null, [], [])), (130, (.iconst 0, 131, 0, .int (0), [], [])), (131, (.putfield 309, 134, 0, .int 0, [], [(10, 45)])), (134, (.aload_n 0, 135, 0, .null, [], [])), (135, (.getfield 79, 138, 0, .null, [], [(10, 33)])), (138, (.iload_n 1, 139, 0, .null, [], [])), (139, (.iconst 1, 140, 0, .int (1), [], [])), (140, (.iastore, 141, 0, .null, [], [])), (141, (.iconst (-1), 142, 0, .int (-1), [], [])), (142, (.ireturn, 143, 0, .null, [], [])), (143, (.aload_n 0, 144, 0, .null, [], [])), (144, (.getfield 79, 147, 0, .null, [], [(10, 33)])), (147, (.iload_n 1, 148, 0, .null, [], [])), (148, (.dup2, 149, 0, .null, [], [])), (149, (.iaload, 150, 0, .null, [], [])), (150, (.aload_n 0, 151, 0, .null, [], [])), (151, (.getfield 309, 154, 0, .null, [], [(10, 45)])), (154, (.ifCond .eq 7, 157, 161, .null, [], [])), (157, (.iconst 1, 158, 0, .int (1), [], [])), (158, (.goto 4, 161, 162, .null, [], [])), (161, (.iconst 0, 162, 0, .int (0), [], [])), (162, (.iadd, 163, 0, .null, [], [])), (163, (.iastore, 164, 0, .null, [], [])), (164, (.iconst (-1), 165, 0, .int (-1), [], [])), (165, (.ireturn, 166, 0, .null, [], [])), (166, (.aload_n 0, 167, 0, .null, [], [])), (167, (.getfield 309, 170, 0, .null, [], [(10, 45)])), (170, (.ifCond .eq 29, 173, 199, .null, [], [])), (173, (.aload_n 0, 174, 0, .null, [], [])), (174, (.getfield 79, 177, 0, .null, [], [(10, 33)])), (177, (.iload_n 1, 178, 0, .null, [], [])), (178, (.iaload, 179, 0, .null, [], [])), (179, (.ifCond .le 20, 182, 199, .null, [], [])), (182, (.aload_n 0, 183, 0, .null, [], [])), (183, (.getfield 79, 186, 0, .null, [], [(10, 33)])), (186, (.iload_n 1, 187, 0, .null, [], [])), (187, (.dup2, 188, 0, .null, [], [])), (188, (.iaload, 189, 0, .null, [], [])), (189, (.iconst 1, 190, 0, .int (1), [], [])), (190, (.isub, 191, 0, .null, [], [])), (191, (.iastore, 192, 0, .null, [], [])), (192, (.aload_n 0, 193, 0, .null, [], [])), (193, (.getfield 55, 196, 0, .null, [], [(10, 23)])), (196, (.iload_n 1, 197, 0, .null, [], [])), (197, (.iaload, 198, 0, .null, [], [])), (198, (.ireturn, 199, 0, .null, [], [])), (199, (.iconst (-1), 200, 0, .int (-1), [], [])), (200, (.ireturn, 201, 0, .null, [], [])), (201, (.aload_n 0, 202, 0, .null, [], [])), (202, (.getfield 309, 205, 0, .null, [], [(10, 45)])), (205, (.ifCond .ne 26, 208, 231, .null, [], [])), (208, (.aload_n 0, 209, 0, .null, [], [])), (209, (.getfield 79, 212, 0, .null, [], [(10, 33)])), (212, (.iload_n 1, 213, 0, .null, [], [])), (213, (.iaload, 214, 0, .null, [], [])), (214, (.ifCond .ne 17, 217, 231, .null, [], [])), (217, (.aload_n 0, 218, 0, .null, [], [])), (218, (.getfield 79, 221, 0, .null, [], [(10, 33)])), (221, (.iload_n 1, 222, 0, .null, [], [])), (222, (.iconst 1, 223, 0, .int (1), [], [])), (223, (.iastore, 224, 0, .null, [], [])), (224, (.aload_n 0, 225, 0, .null, [], [])), (225, (.getfield 58, 228, 0, .null, [], [(10, 24)])), (228, (.iload_n 1, 229, 0, .null, [], [])), (229, (.iaload, 230, 0, .null, [], [])), (230, (.ireturn, 231, 0, .null, [], [])), (231, (.iconst (-1), 232, 0, .int (-1), [], [])), (232, (.ireturn, 233, 0, .null, [], [])), (233, (.aload_n 0, 234, 0, .null, [], [])), (234, (.iload_n 1, 235, 0, .null, [], [])), (235, (.invokevirtual 334, 238, 0, .null, [], [])), (238, (.ireturn, 239, 0, .null, [], [])), (239, (.aload_n 0, 240, 0, .null, [], [])), (240, (.iload_n 1, 241, 0, .null, [], [])), (241, (.invokevirtual 337, 244, 0, .null, [], [])), (244, (.ireturn, 245, 0, .null, [], [])), (245, (.aload_n 0, 246, 0, .null, [], [])), (246, (.aload_n 0, 247, 0, .null, [], [])), (247, (.getfield 309, 250, 0, .null, [], [(10, 45)])), (250, (.ifCond .eq 15, 253, 265, .null, [], [])), (253, (.aload_n 0, 254, 0, .null, [], [])), (254, (.iload_n 1, 255, 0, .null, [], [])), (255, (.aload_n 0, 256, 0, .null, [], [])), (256, (.getfield 312, 259, 0, .null, [], [(10, 46)])), (259, (.invokevirtual 340, 262, 0, .null, [], [])), (262, (.goto 7, 265, 269, .null, [], [])), (265, (.aload_n 0, 266, 0, .null, [], [])), (266, (.getfield 312, 269, 0, .null, [], [(10, 46)])), (269, (.putfield 312, 272, 0, .null, [], [(10, 46)])), (272, (.iconst (-1), 273, 0, .int (-1), [], [])), (273, (.ireturn, 274, 0, .null, [], []))]
noncomputable abbrev jX12_hears : List (Nat × sf_J (Int32 × sf_S)) := [(93, sf_jI sf_layM [10] 3 gX12_passes), (123, sf_jI sf_layM [10] 3 gX12_passes), (235, sf_jI sf_layM [10] 2 gX12_hearsOne), (241, sf_jI sf_layM [10] 2 gX12_hearsOpen), (259, sf_jI sf_layM [10] 3 gX12_made)]
noncomputable def dX12_hears (x1 : Int32) (σ : sf_S) : Option (Int32 × sf_S) :=
  if sf_in x1 40 then
    let v1 := (σ 11 x1.toNatClampNeg)
    if v1 = (63 : Int32) then
      if (σ 0 45) = 0 then
        some ((-1 : Int32), σ)
      else
        (dX12_passes x1 (σ 0 46) σ).bind fun u2 =>
        if ¬ u2.1 = 0 then
          some ((-1 : Int32), u2.2)
        else
          if sf_in x1 40 then
            some ((u2.2 16 x1.toNatClampNeg), u2.2)
          else
            none
    else
    if v1 = (99 : Int32) then
      if ¬ (σ 0 45) = 0 then
        some ((-1 : Int32), σ)
      else
        if sf_in x1 40 then
          if ¬ (σ 24 x1.toNatClampNeg) = 0 then
            some ((-1 : Int32), σ)
          else
            if sf_in x1 40 then
              let s3 := sf_up σ 24 x1.toNatClampNeg (1 : Int32)
              if sf_in x1 40 then
                some ((s3 17 x1.toNatClampNeg), s3)
              else
                none
            else
              none
        else
          none
    else
    if v1 = (100 : Int32) then
      if (σ 0 45) = 0 then
        some ((-1 : Int32), σ)
      else
        if sf_in x1 40 then
          if (σ 24 x1.toNatClampNeg) ≤ 0 then
            some ((-1 : Int32), σ)
          else
            if sf_in x1 40 then
              if sf_in x1 40 then
                let s4 := sf_up σ 24 x1.toNatClampNeg ((σ 24 x1.toNatClampNeg) - (1 : Int32))
                if sf_in x1 40 then
                  some ((s4 16 x1.toNatClampNeg), s4)
                else
                  none
              else
                none
            else
              none
        else
          none
    else
    if v1 = (107 : Int32) then
      if (σ 0 45) = 0 then
        some ((-1 : Int32), σ)
      else
        (dX12_passes x1 (σ 0 46) σ).bind fun u5 =>
        if ¬ u5.1 = 0 then
          some ((-1 : Int32), u5.2)
        else
          if sf_in x1 40 then
            some ((u5.2 16 x1.toNatClampNeg), u5.2)
          else
            none
    else
    if v1 = (116 : Int32) then
      if sf_in x1 40 then
        if (σ 0 45) = 0 then
          if sf_in x1 40 then
            let s6 := sf_up σ 24 x1.toNatClampNeg ((σ 24 x1.toNatClampNeg) + (0 : Int32))
            some ((-1 : Int32), s6)
          else
            none
        else
          if sf_in x1 40 then
            let s7 := sf_up σ 24 x1.toNatClampNeg ((σ 24 x1.toNatClampNeg) + (1 : Int32))
            some ((-1 : Int32), s7)
          else
            none
      else
        none
    else
    if v1 = (119 : Int32) then
      if (σ 0 45) = 0 then
        some ((-1 : Int32), σ)
      else
        (dX12_passes x1 (σ 0 46) σ).bind fun u8 =>
        if ¬ u8.1 = 0 then
          some ((-1 : Int32), u8.2)
        else
          let s9 := sf_up u8.2 0 45 (0 : Int32)
          if sf_in x1 40 then
            let s10 := sf_up s9 24 x1.toNatClampNeg (1 : Int32)
            some ((-1 : Int32), s10)
          else
            none
    else
    if v1 = (120 : Int32) then
      (dX12_hearsOpen x1 σ).bind fun u11 =>
      some (u11.1, u11.2)
    else
    if v1 = (122 : Int32) then
      (dX12_hearsOne x1 σ).bind fun u12 =>
      some (u12.1, u12.2)
    else
      if (σ 0 45) = 0 then
        let s13 := sf_up σ 0 46 (σ 0 46)
        some ((-1 : Int32), s13)
      else
        (dX12_made x1 (σ 0 46) σ).bind fun u14 =>
        let s15 := sf_up u14.2 0 46 u14.1
        some ((-1 : Int32), s15)
  else
    none
noncomputable abbrev gX12_hears (av : List Value) (σ : sf_S) : Option (Int32 × sf_S) := match av with
  | [.ref q, .int x1] => (match sf_rv [0] q with | true => dX12_hears x1 σ | false => none)
  | _ => none
set_option maxRecDepth 100000 in
set_option maxHeartbeats 4000000 in
theorem rX12_hears {Wt : Nat → sf_L → List Value → sf_S → Prop} {Post : (Int32 × sf_S) → Prop} (hs : sf_Snd Wt sf_layM sf_hI jX12_hears tX12_hears Post) (hm : sf_mono Wt) : ∀ av σ u, gX12_hears av σ = some u → Post u → (∀ ad, (lg_sl (av.map (sf_v ad))).length ≤ 2) ∧ Wt 0 (sf_ent 0 av) [] σ := by
  intro av σ u h hp
  unfold gX12_hears at h
  split at h
  · rename_i q x1
    split at h
    · rename_i hq
      have hq : q = 0 := by simpa using sf_rv_mem hq
      subst hq
      refine ⟨fun ad => Nat.le_of_ble_eq_true rfl, ?_⟩
      exact sf_run_ok hs sf_sm_nil 126 0 _ _ σ u h hp
    · cases h
  · cases h
theorem kX12_hears (l : Launch) : sf_C l sf_layM yX12_hears cX12_hears 2 (some .int) (sf_rm 4 167) (fun av σ => (gX12_hears av σ).map sf_vI) :=
  sf_met (tab := tX12_hears) (J := jX12_hears) (fl := sf_fl12) (cl := sf_cl12) (by decide +kernel) ⟨rfl, rfl⟩ sf_RH_I (by decide +kernel) sf_fl12_ok sf_cl12_ok
    (sf_JO_cons (sf_je_V (n := 3) (cs := [10]) (tv := sf_vI) (kX12_passes l) mwX12_passes (by decide +kernel : decode cX12_hears 93 = .ok (.invokevirtual 331, 3)) wt_1616 wt_1618 wt_121 (by decide +kernel) (by decide) (by decide) (List.forall_mem_cons.mpr ⟨⟨_, _, rfl⟩, fun _ h => absurd h List.not_mem_nil⟩) (sf_RM_of (by omega) (by omega))) (sf_JO_cons (sf_je_V (n := 3) (cs := [10]) (tv := sf_vI) (kX12_passes l) mwX12_passes (by decide +kernel : decode cX12_hears 123 = .ok (.invokevirtual 331, 3)) wt_1616 wt_1618 wt_121 (by decide +kernel) (by decide) (by decide) (List.forall_mem_cons.mpr ⟨⟨_, _, rfl⟩, fun _ h => absurd h List.not_mem_nil⟩) (sf_RM_of (by omega) (by omega))) (sf_JO_cons (sf_je_V (n := 2) (cs := [10]) (tv := sf_vI) (kX12_hearsOne l) mwX12_hearsOne (by decide +kernel : decode cX12_hears 235 = .ok (.invokevirtual 334, 3)) wt_1668 wt_1670 wt_134 (by decide +kernel) (by decide) (by decide) (List.forall_mem_cons.mpr ⟨⟨_, _, rfl⟩, fun _ h => absurd h List.not_mem_nil⟩) (sf_RM_of (by omega) (by omega))) (sf_JO_cons (sf_je_V (n := 2) (cs := [10]) (tv := sf_vI) (kX12_hearsOpen l) mwX12_hearsOpen (by decide +kernel : decode cX12_hears 241 = .ok (.invokevirtual 337, 3)) wt_1672 wt_1674 wt_135 (by decide +kernel) (by decide) (by decide) (List.forall_mem_cons.mpr ⟨⟨_, _, rfl⟩, fun _ h => absurd h List.not_mem_nil⟩) (sf_RM_of (by omega) (by omega))) (sf_JO_cons (sf_je_V (n := 3) (cs := [10]) (tv := sf_vI) (kX12_made l) mwX12_made (by decide +kernel : decode cX12_hears 259 = .ok (.invokevirtual 340, 3)) wt_1620 wt_1622 wt_122 (by decide +kernel) (by decide) (by decide) (List.forall_mem_cons.mpr ⟨⟨_, _, rfl⟩, fun _ h => absurd h List.not_mem_nil⟩) (sf_RM_of (by omega) (by omega))) (sf_JO_nil))))))
    (fun Wt Post hs hm => rX12_hears hs hm)
-- ===== StreamFuserModel.asks()Z =====
abbrev tX12_asks : List (Nat × sf_E) := [(0, (.aload_n 0, 1, 0, .null, [], [])), (1, (.iconst 0, 2, 0, .int (0), [], [])), (2, (.putfield 349, 5, 0, .null, [], [(10, 48)])), (5, (.iconst 0, 6, 0, .int (0), [], [])), (6, (.istore_n 1, 7, 0, .null, [], [])), (7, (.iconst 1, 8, 0, .int (1), [], [])), (8, (.istore_n 2, 9, 0, .null, [], [])), (9, (.iconst 0, 10, 0, .int (0), [], [])), (10, (.istore_n 3, 11, 0, .null, [], [])), (11, (.iload_n 3, 12, 0, .null, [], [])), (12, (.ldc_w 352, 15, 0, .int (100000000), [], [])), (15, (.if_icmp .ge 132, 18, 147, .null, [], [])), (18, (.iload_n 2, 19, 0, .null, [], [])), (19, (.ifCond .eq 39, 22, 58, .null, [], [])), (22, (.aload_n 0, 23, 0, .null, [], [])), (23, (.iload_n 1, 24, 0, .null, [], [])), (24, (.invokevirtual 353, 27, 0, .null, [], [])), (27, (.istore 4, 29, 0, .null, [], [])), (29, (.iload 4, 31, 0, .null, [], [])), (31, (.iconst (-1), 32, 0, .int (-1), [], [])), (32, (.if_icmp .eq 77, 35, 109, .null, [], [])), (35, (.aload_n 0, 36, 0, .null, [], [])), (36, (.getfield 94, 39, 0, .null, [], [(10, 47)])), (39, (.aload_n 0, 40, 0, .null, [], [])), (40, (.getfield 349, 43, 0, .null, [], [(10, 48)])), (43, (.iload_n 1, 44, 0, .null, [], [])), (44, (.iastore, 45, 0, .null, [], [])), (45, (.aload_n 0, 46, 0, .null, [], [])), (46, (.dup, 47, 0, .null, [], [])), (47, (.getfield 349, 50, 0, .null, [], [(10, 48)])), (50, (.iconst 1, 51, 0, .int (1), [], [])), (51, (.iadd, 52, 0, .null, [], [])), (52, (.putfield 349, 55, 0, .null, [], [(10, 48)])), (55, (.goto 54, 58, 109, .null, [], [])), (58, (.aload_n 0, 59, 0, .null, [], [])), (59, (.getfield 349, 62, 0, .null, [], [(10, 48)])), (62, (.ifCond .ne 8, 65, 70, .null, [], [])), (65, (.aload_n 0, 66, 0, .null, [], [])), (66, (.getfield 309, 69, 0, .null, [], [(10, 45)])), (69, (.ireturn, 70, 0, .null, [], [])), (70, (.aload_n 0, 71, 0, .null, [], [])), (71, (.getfield 94, 74, 0, .null, [], [(10, 47)])), (74, (.aload_n 0, 75, 0, .null, [], [])), (75, (.getfield 349, 78, 0, .null, [], [(10, 48)])), (78, (.iconst 1, 79, 0, .int (1), [], [])), (79, (.isub, 80, 0, .null, [], [])), (80, (.iaload, 81, 0, .null, [], [])), (81, (.istore_n 1, 82, 0, .null, [], [])), (82, (.aload_n 0, 83, 0, .null, [], [])), (83, (.iload_n 1, 84, 0, .null, [], [])), (84, (.invokevirtual 356, 87, 0, .null, [], [])), (87, (.istore 4, 89, 0, .null, [], [])), (89, (.aload_n 0, 90, 0, .null, [], [])), (90, (.dup, 91, 0, .null, [], [])), (91, (.getfield 349, 94, 0, .null, [], [(10, 48)])), (94, (.iload 4, 96, 0, .null, [], [])), (96, (.iconst (-1), 97, 0, .int (-1), [], [])), (97, (.if_icmp .ne 7, 100, 104, .null, [], [])), (100, (.iconst 1, 101, 0, .int (1), [], [])), (101, (.goto 4, 104, 105, .null, [], [])), (104, (.iconst 0, 105, 0, .int (0), [], [])), (105, (.isub, 106, 0, .null, [], [])), (106, (.putfield 349, 109, 0, .null, [], [(10, 48)])), (109, (.aload_n 0, 110, 0, .null, [], [])), (110, (.getfield 294, 113, 0, .null, [], [(10, 35)])), (113, (.ifCond .eq 5, 116, 118, .null, [], [])), (116, (.iconst 0, 117, 0, .int (0), [], [])), (117, (.ireturn, 118, 0, .null, [], [])), (118, (.iload 4, 120, 0, .null, [], [])), (120, (.iconst (-1), 121, 0, .int (-1), [], [])), (121, (.if_icmp .eq 7, 124, 128, .null, [], [])), (124, (.iconst 1, 125, 0, .int (1), [], [])), (125, (.goto 4, 128, 129, .null, [], [])), (128, (.iconst 0, 129, 0, .int (0), [], [])), (129, (.istore_n 2, 130, 0, .null, [], [])), (130, (.iload_n 2, 131, 0, .null, [], [])), (131, (.ifCond .eq 8, 134, 139, .null, [], [])), (134, (.iload 4, 136, 0, .null, [], [])), (136, (.goto 4, 139, 140, .null, [], [])), (139, (.iload_n 1, 140, 0, .null, [], [])), (140, (.istore_n 1, 141, 0, .null, [], [])), (141, (.iinc 3 1, 144, 0, .int (1), [], [])), (144, (.goto (-133), 147, 11, .null, [], [])), (147, (.iconst 0, 148, 0, .int (0), [], [])), (148, (.ireturn, 149, 0, .null, [], []))]
noncomputable abbrev jX12_asks : List (Nat × sf_J (Int32 × sf_S)) := [(24, sf_jI sf_layM [10] 2 gX12_asksNext), (84, sf_jI sf_layM [10] 2 gX12_hears)]
abbrev wX12_asks_129 {ρ : Type} (k : Int32 → Int32 → Int32 → Int32 → sf_S → Option ρ) : sf_M ρ := fun L st σ => sf_lda L 0 fun a0 => sf_eq a0 0 (sf_ldi L 1 fun x1 => sf_ldi L 3 fun x3 => sf_ldi L 4 fun x4 => sf_i1 st fun y0 st => sf_nil st (k x1 x3 x4 y0 σ))
theorem wX12_asks_129_ok {ρ : Type} {Wt : Nat → sf_L → List Value → sf_S → Prop} {Post : ρ → Prop} (hm : sf_mono Wt) {k : Int32 → Int32 → Int32 → Int32 → sf_S → Option ρ} (h : ∀ (x1 : Int32) (x3 : Int32) (x4 : Int32) (y0 : Int32) (σ : sf_S) (u : ρ), k x1 x3 x4 y0 σ = some u → Post u → Wt 129 [(0, some (.ref 0)), (1, some (.int x1)), (3, some (.int x3)), (4, some (.int x4))] [.int y0] σ) : sf_CK Wt Post 129 (wX12_asks_129 k) := by
  intro L st σ u hf hp
  unfold wX12_asks_129 at hf
  have hf0 := hf
  obtain ⟨a0, e0, hf1⟩ := sf_lda_inv hf0
  obtain ⟨rfl, hf2⟩ := sf_eq_inv hf1
  obtain ⟨x1, e1, hf3⟩ := sf_ldi_inv hf2
  obtain ⟨x3, e3, hf4⟩ := sf_ldi_inv hf3
  obtain ⟨x4, e4, hf5⟩ := sf_ldi_inv hf4
  obtain ⟨y0, st, rfl, hf6⟩ := sf_i1_inv hf5
  obtain ⟨rfl, hz⟩ := sf_nil_inv hf6
  exact hm _ [(0, some (.ref _)), (1, some (.int x1)), (3, some (.int x3)), (4, some (.int x4))] _ _ _ (sf_le_ok (And.intro e0 (And.intro e1 (And.intro e3 (And.intro e4 trivial))))) (h _ _ _ _ _ _ hz hp)
abbrev wX12_asks_109 {ρ : Type} (k : Int32 → Int32 → Int32 → sf_S → Option ρ) : sf_M ρ := fun L st σ => sf_lda L 0 fun a0 => sf_eq a0 0 (sf_ldi L 1 fun x1 => sf_ldi L 3 fun x3 => sf_ldi L 4 fun x4 => sf_nil st (k x1 x3 x4 σ))
theorem wX12_asks_109_ok {ρ : Type} {Wt : Nat → sf_L → List Value → sf_S → Prop} {Post : ρ → Prop} (hm : sf_mono Wt) {k : Int32 → Int32 → Int32 → sf_S → Option ρ} (h : ∀ (x1 : Int32) (x3 : Int32) (x4 : Int32) (σ : sf_S) (u : ρ), k x1 x3 x4 σ = some u → Post u → Wt 109 [(0, some (.ref 0)), (1, some (.int x1)), (3, some (.int x3)), (4, some (.int x4))] [] σ) : sf_CK Wt Post 109 (wX12_asks_109 k) := by
  intro L st σ u hf hp
  unfold wX12_asks_109 at hf
  have hf0 := hf
  obtain ⟨a0, e0, hf1⟩ := sf_lda_inv hf0
  obtain ⟨rfl, hf2⟩ := sf_eq_inv hf1
  obtain ⟨x1, e1, hf3⟩ := sf_ldi_inv hf2
  obtain ⟨x3, e3, hf4⟩ := sf_ldi_inv hf3
  obtain ⟨x4, e4, hf5⟩ := sf_ldi_inv hf4
  obtain ⟨rfl, hz⟩ := sf_nil_inv hf5
  exact hm _ [(0, some (.ref _)), (1, some (.int x1)), (3, some (.int x3)), (4, some (.int x4))] _ _ _ (sf_le_ok (And.intro e0 (And.intro e1 (And.intro e3 (And.intro e4 trivial))))) (h _ _ _ _ _ hz hp)
abbrev wX12_asks_11 {ρ : Type} (k : Int32 → Int32 → Int32 → sf_S → Option ρ) : sf_M ρ := fun L st σ => sf_lda L 0 fun a0 => sf_eq a0 0 (sf_ldi L 1 fun x1 => sf_ldi L 2 fun x2 => sf_ldi L 3 fun x3 => sf_nil st (k x1 x2 x3 σ))
theorem wX12_asks_11_ok {ρ : Type} {Wt : Nat → sf_L → List Value → sf_S → Prop} {Post : ρ → Prop} (hm : sf_mono Wt) {k : Int32 → Int32 → Int32 → sf_S → Option ρ} (h : ∀ (x1 : Int32) (x2 : Int32) (x3 : Int32) (σ : sf_S) (u : ρ), k x1 x2 x3 σ = some u → Post u → Wt 11 [(0, some (.ref 0)), (1, some (.int x1)), (2, some (.int x2)), (3, some (.int x3))] [] σ) : sf_CK Wt Post 11 (wX12_asks_11 k) := by
  intro L st σ u hf hp
  unfold wX12_asks_11 at hf
  have hf0 := hf
  obtain ⟨a0, e0, hf1⟩ := sf_lda_inv hf0
  obtain ⟨rfl, hf2⟩ := sf_eq_inv hf1
  obtain ⟨x1, e1, hf3⟩ := sf_ldi_inv hf2
  obtain ⟨x2, e2, hf4⟩ := sf_ldi_inv hf3
  obtain ⟨x3, e3, hf5⟩ := sf_ldi_inv hf4
  obtain ⟨rfl, hz⟩ := sf_nil_inv hf5
  exact hm _ [(0, some (.ref _)), (1, some (.int x1)), (2, some (.int x2)), (3, some (.int x3))] _ _ _ (sf_le_ok (And.intro e0 (And.intro e1 (And.intro e2 (And.intro e3 trivial))))) (h _ _ _ _ _ hz hp)
noncomputable def dX12_asks_129 (K11 : Int32 → Int32 → Int32 → sf_S → Option (Int32 × sf_S)) (x1 : Int32) (x3 : Int32) (x4 : Int32) (y0 : Int32) (σ : sf_S) : Option (Int32 × sf_S) :=
  if y0 = 0 then
    K11 x1 y0 (x3 + (1 : Int32)) σ
  else
    K11 x4 y0 (x3 + (1 : Int32)) σ
set_option maxRecDepth 100000 in
set_option maxHeartbeats 4000000 in
theorem rX12_asks_129 {Wt : Nat → sf_L → List Value → sf_S → Prop} {Post : (Int32 × sf_S) → Prop} (hs : sf_Snd Wt sf_layM sf_hZ jX12_asks tX12_asks Post) (hm : sf_mono Wt) {K11 : Int32 → Int32 → Int32 → sf_S → Option (Int32 × sf_S)} (hK11 : sf_CK Wt Post 11 (wX12_asks_11 K11)) : sf_CK Wt Post 129 (wX12_asks_129 (dX12_asks_129 K11)) := by
  refine wX12_asks_129_ok hm ?_
  intro x1 x3 x4 y0 σ u h hp
  exact sf_run_ok hs (sf_sm_cons hK11 sf_sm_nil) 90 129 _ _ σ u h hp
noncomputable def dX12_asks_109 (K11 : Int32 → Int32 → Int32 → sf_S → Option (Int32 × sf_S)) (x1 : Int32) (x3 : Int32) (x4 : Int32) (σ : sf_S) : Option (Int32 × sf_S) :=
  if (σ 0 35) = 0 then
    if x4 = (-1 : Int32) then
      dX12_asks_129 K11 x1 x3 x4 (0 : Int32) σ
    else
      dX12_asks_129 K11 x1 x3 x4 (1 : Int32) σ
  else
    some ((0 : Int32), σ)
set_option maxRecDepth 100000 in
set_option maxHeartbeats 4000000 in
theorem rX12_asks_109 {Wt : Nat → sf_L → List Value → sf_S → Prop} {Post : (Int32 × sf_S) → Prop} (hs : sf_Snd Wt sf_layM sf_hZ jX12_asks tX12_asks Post) (hm : sf_mono Wt) {K11 : Int32 → Int32 → Int32 → sf_S → Option (Int32 × sf_S)} (hK11 : sf_CK Wt Post 11 (wX12_asks_11 K11)) : sf_CK Wt Post 109 (wX12_asks_109 (dX12_asks_109 K11)) := by
  refine wX12_asks_109_ok hm ?_
  intro x1 x3 x4 σ u h hp
  exact sf_run_ok hs (sf_sm_cons (rX12_asks_129 hs hm hK11) sf_sm_nil) 90 109 _ _ σ u h hp
noncomputable def dX12_asks_11 : Nat → Int32 → Int32 → Int32 → sf_S → Option (Int32 × sf_S)
  | 0 => fun _ _ _ _ => none
  | n + 1 => fun x1 x2 x3 σ =>
    if (100000000 : Int32) ≤ x3 then
      some ((0 : Int32), σ)
    else
      if x2 = 0 then
        if ¬ (σ 0 48) = 0 then
          let v1 := ((σ 0 48) - (1 : Int32))
          if sf_in v1 41 then
            let v2 := (σ 29 v1.toNatClampNeg)
            (dX12_hears v2 σ).bind fun u3 =>
            if ¬ u3.1 = (-1 : Int32) then
              let s4 := sf_up u3.2 0 48 ((u3.2 0 48) - (0 : Int32))
              dX12_asks_109 (dX12_asks_11 n) v2 x3 u3.1 s4
            else
              let s5 := sf_up u3.2 0 48 ((u3.2 0 48) - (1 : Int32))
              dX12_asks_109 (dX12_asks_11 n) v2 x3 u3.1 s5
          else
            none
        else
          let v6 := (σ 0 45)
          if sf_01 v6 then some (v6, σ) else none
      else
        (dX12_asksNext x1 σ).bind fun u7 =>
        if u7.1 = (-1 : Int32) then
          dX12_asks_109 (dX12_asks_11 n) x1 x3 u7.1 u7.2
        else
          let v8 := (u7.2 0 48)
          if sf_in v8 41 then
            let s9 := sf_up u7.2 29 v8.toNatClampNeg x1
            let s10 := sf_up s9 0 48 ((s9 0 48) + (1 : Int32))
            dX12_asks_109 (dX12_asks_11 n) x1 x3 u7.1 s10
          else
            none
set_option maxRecDepth 100000 in
set_option maxHeartbeats 4000000 in
theorem rX12_asks_11 {Wt : Nat → sf_L → List Value → sf_S → Prop} {Post : (Int32 × sf_S) → Prop} (hs : sf_Snd Wt sf_layM sf_hZ jX12_asks tX12_asks Post) (hm : sf_mono Wt) : ∀ n : Nat, sf_CK Wt Post 11 (wX12_asks_11 (dX12_asks_11 n)) := by
  intro n
  induction n with
  | zero => exact wX12_asks_11_ok hm (fun x1 x2 x3 σ u h _ => by simp [dX12_asks_11] at h)
  | succ n ih =>
    refine wX12_asks_11_ok hm ?_
    intro x1 x2 x3 σ u h hp
    exact sf_run_ok hs (sf_sm_cons (rX12_asks_109 hs hm ih) sf_sm_nil) 90 11 _ _ σ u h hp
noncomputable def dX12_asks (σ : sf_S) : Option (Int32 × sf_S) :=
  let s1 := sf_up σ 0 48 (0 : Int32)
  dX12_asks_11 sf_F (0 : Int32) (1 : Int32) (0 : Int32) s1
noncomputable abbrev gX12_asks (av : List Value) (σ : sf_S) : Option (Int32 × sf_S) := match av with
  | [.ref q] => (match sf_rv [0] q with | true => dX12_asks σ | false => none)
  | _ => none
set_option maxRecDepth 100000 in
set_option maxHeartbeats 4000000 in
theorem rX12_asks {Wt : Nat → sf_L → List Value → sf_S → Prop} {Post : (Int32 × sf_S) → Prop} (hs : sf_Snd Wt sf_layM sf_hZ jX12_asks tX12_asks Post) (hm : sf_mono Wt) : ∀ av σ u, gX12_asks av σ = some u → Post u → (∀ ad, (lg_sl (av.map (sf_v ad))).length ≤ 5) ∧ Wt 0 (sf_ent 0 av) [] σ := by
  intro av σ u h hp
  unfold gX12_asks at h
  split at h
  · rename_i q
    split at h
    · rename_i hq
      have hq : q = 0 := by simpa using sf_rv_mem hq
      subst hq
      refine ⟨fun ad => Nat.le_of_ble_eq_true rfl, ?_⟩
      exact sf_run_ok hs (sf_sm_cons (rX12_asks_11 hs hm sf_F) sf_sm_nil) 90 0 _ _ σ u h hp
    · cases h
  · cases h
theorem kX12_asks (l : Launch) : sf_C l sf_layM yX12_asks cX12_asks 5 (some .boolean) (sf_rm 5 188) (fun av σ => (gX12_asks av σ).map sf_vI) :=
  sf_met (tab := tX12_asks) (J := jX12_asks) (fl := sf_fl12) (cl := sf_cl12) (by decide +kernel) ⟨rfl, rfl⟩ sf_RH_Z (by decide +kernel) sf_fl12_ok sf_cl12_ok
    (sf_JO_cons (sf_je_V (n := 2) (cs := [10]) (tv := sf_vI) (kX12_asksNext l) mwX12_asksNext (by decide +kernel : decode cX12_asks 24 = .ok (.invokevirtual 353, 3)) wt_1660 wt_1662 wt_132 (by decide +kernel) (by decide) (by decide) (List.forall_mem_cons.mpr ⟨⟨_, _, rfl⟩, fun _ h => absurd h List.not_mem_nil⟩) (sf_RM_of (by omega) (by omega))) (sf_JO_cons (sf_je_V (n := 2) (cs := [10]) (tv := sf_vI) (kX12_hears l) mwX12_hears (by decide +kernel : decode cX12_asks 84 = .ok (.invokevirtual 356, 3)) wt_1664 wt_1666 wt_133 (by decide +kernel) (by decide) (by decide) (List.forall_mem_cons.mpr ⟨⟨_, _, rfl⟩, fun _ h => absurd h List.not_mem_nil⟩) (sf_RM_of (by omega) (by omega))) (sf_JO_nil)))
    (fun Wt Post hs hm => rX12_asks hs hm)
-- ===== StreamFuserModel.afterOne(II)I =====
abbrev tX12_afterOne : List (Nat × sf_E) := [(0, (.iload_n 2, 1, 0, .null, [], [])), (1, (.lookupswitch 218 #[(63, 67), (100, 115), (107, 67), (116, 103), (119, 85), (120, 196), (122, 140)], 68, 219, .null, [((63), 68), ((100), 116), ((107), 68), ((116), 104), ((119), 86), ((120), 197), ((122), 141)], [])), (68, (.aload_n 0, 69, 0, .null, [], [])), (69, (.iload_n 1, 70, 0, .null, [], [])), (70, (.aload_n 0, 71, 0, .null, [], [])), (71, (.getfield 312, 74, 0, .null, [], [(10, 46)])), (74, (.invokevirtual 331, 77, 0, .null, [], [])), (77, (.ifCond .eq 7, 80, 84, .null, [], [])), (80, (.iconst 0, 81, 0, .int (0), [], [])), (81, (.goto 4, 84, 85, .null, [], [])), (84, (.iconst 1, 85, 0, .int (1), [], [])), (85, (.ireturn, 86, 0, .null, [], [])), (86, (.aload_n 0, 87, 0, .null, [], [])), (87, (.iload_n 1, 88, 0, .null, [], [])), (88, (.aload_n 0, 89, 0, .null, [], [])), (89, (.getfield 312, 92, 0, .null, [], [(10, 46)])), (92, (.invokevirtual 331, 95, 0, .null, [], [])), (95, (.ifCond .eq 7, 98, 102, .null, [], [])), (98, (.iconst 0, 99, 0, .int (0), [], [])), (99, (.goto 4, 102, 103, .null, [], [])), (102, (.iconst 2, 103, 0, .int (2), [], [])), (103, (.ireturn, 104, 0, .null, [], [])), (104, (.aload_n 0, 105, 0, .null, [], [])), (105, (.getfield 79, 108, 0, .null, [], [(10, 33)])), (108, (.iload_n 1, 109, 0, .null, [], [])), (109, (.dup2, 110, 0, .null, [], [])), (110, (.iaload, 111, 0, .null, [], [])), (111, (.iconst 1, 112, 0, .int (1), [], [])), (112, (.iadd, 113, 0, .null, [], [])), (113, (.iastore, 114, 0, .null, [], [])), (114, (.iconst 0, 115, 0, .int (0), [], [])), (115, (.ireturn, 116, 0, .null, [], [])), (116, (.aload_n 0, 117, 0, .null, [], [])), (117, (.getfield 79, 120, 0, .null, [], [(10, 33)])), (120, (.iload_n 1, 121, 0, .null, [], [])), (121, (.dup2, 122, 0, .null, [], [])), (122, (.iaload, 123, 0, .null, [], [])), (123, (.iconst 1, 124, 0, .int (1), [], [])), (124, (.isub, 125, 0, .null, [], [])), (125, (.iastore, 126, 0, .null, [], [])), (126, (.aload_n 0, 127, 0, .null, [], [])), (127, (.getfield 79, 130, 0, .null, [], [(10, 33)])), (130, (.iload_n 1, 131, 0, .null, [], [])), (131, (.iaload, 132, 0, .null, [], [])), (132, (.ifCond .lt 7, 135, 139, .null, [], [])), (135, (.iconst 1, 136, 0, .int (1), [], [])), (136, (.goto 4, 139, 140, .null, [], [])), (139, (.iconst 0, 140, 0, .int (0), [], [])), (140, (.ireturn, 141, 0, .null, [], [])), (141, (.aload_n 0, 142, 0, .null, [], [])), (142, (.getfield 79, 145, 0, .null, [], [(10, 33)])), (145, (.iload_n 1, 146, 0, .null, [], [])), (146, (.iaload, 147, 0, .null, [], [])), (147, (.ifCond .ne 22, 150, 169, .null, [], [])), (150, (.aload_n 0, 151, 0, .null, [], [])), (151, (.getfield 82, 154, 0, .null, [], [(10, 34)])), (154, (.iload_n 1, 155, 0, .null, [], [])), (155, (.aload_n 0, 156, 0, .null, [], [])), (156, (.getfield 312, 159, 0, .null, [], [(10, 46)])), (159, (.iastore, 160, 0, .null, [], [])), (160, (.aload_n 0, 161, 0, .null, [], [])), (161, (.getfield 79, 164, 0, .null, [], [(10, 33)])), (164, (.iload_n 1, 165, 0, .null, [], [])), (165, (.iconst 1, 166, 0, .int (1), [], [])), (166, (.iastore, 167, 0, .null, [], [])), (167, (.iconst 1, 168, 0, .int (1), [], [])), (168, (.ireturn, 169, 0, .null, [], [])), (169, (.aload_n 0, 170, 0, .null, [], [])), (170, (.getfield 79, 173, 0, .null, [], [(10, 33)])), (173, (.iload_n 1, 174, 0, .null, [], [])), (174, (.iconst 0, 175, 0, .int (0), [], [])), (175, (.iastore, 176, 0, .null, [], [])), (176, (.aload_n 0, 177, 0, .null, [], [])), (177, (.aload_n 0, 178, 0, .null, [], [])), (178, (.iload_n 1, 179, 0, .null, [], [])), (179, (.aload_n 0, 180, 0, .null, [], [])), (180, (.getfield 82, 183, 0, .null, [], [(10, 34)])), (183, (.iload_n 1, 184, 0, .null, [], [])), (184, (.iaload, 185, 0, .null, [], [])), (185, (.aload_n 0, 186, 0, .null, [], [])), (186, (.getfield 312, 189, 0, .null, [], [(10, 46)])), (189, (.invokevirtual 343, 192, 0, .null, [], [])), (192, (.putfield 312, 195, 0, .null, [], [(10, 46)])), (195, (.iconst 0, 196, 0, .int (0), [], [])), (196, (.ireturn, 197, 0, .null, [], [])), (197, (.aload_n 0, 198, 0, .null, [], [])), (198, (.getfield 79, 201, 0, .null, [], [(10, 33)])), (201, (.iload_n 1, 202, 0, .null, [], [])), (202, (.iaload, 203, 0, .null, [], [])), (203, (.ifCond .ne 14, 206, 217, .null, [], [])), (206, (.aload_n 0, 207, 0, .null, [], [])), (207, (.iload_n 1, 208, 0, .null, [], [])), (208, (.aload_n 0, 209, 0, .null, [], [])), (209, (.getfield 312, 212, 0, .null, [], [(10, 46)])), (212, (.invokevirtual 346, 215, 0, .null, [], [])), (215, (.iconst 1, 216, 0, .int (1), [], [])), (216, (.ireturn, 217, 0, .null, [], [])), (217, (.iconst 0, 218, 0, .int (0), [], [])), (218, (.ireturn, 219, 0, .null, [], [])), (219, (.aload_n 0, 220, 0, .null, [], [])), (220, (.aload_n 0, 221, 0, .null, [], [])), (221, (.iload_n 1, 222, 0, .null, [], [])), (222, (.aload_n 0, 223, 0, .null, [], [])), (223, (.getfield 312, 226, 0, .null, [], [(10, 46)])), (226, (.invokevirtual 340, 229, 0, .null, [], [])), (229, (.putfield 312, 232, 0, .null, [], [(10, 46)])), (232, (.iconst 0, 233, 0, .int (0), [], [])), (233, (.ireturn, 234, 0, .null, [], []))]
noncomputable abbrev jX12_afterOne : List (Nat × sf_J (Int32 × sf_S)) := [(74, sf_jI sf_layM [10] 3 gX12_passes), (92, sf_jI sf_layM [10] 3 gX12_passes), (189, sf_jI sf_layM [10] 4 gX12_joined), (212, sf_jV sf_layM [10] 3 gX12_opensFor), (226, sf_jI sf_layM [10] 3 gX12_made)]
noncomputable def dX12_afterOne (x1 : Int32) (x2 : Int32) (σ : sf_S) : Option (Int32 × sf_S) :=
  if x2 = (63 : Int32) then
    (dX12_passes x1 (σ 0 46) σ).bind fun u1 =>
    if u1.1 = 0 then
      some ((1 : Int32), u1.2)
    else
      some ((0 : Int32), u1.2)
  else
  if x2 = (100 : Int32) then
    if sf_in x1 40 then
      if sf_in x1 40 then
        let s2 := sf_up σ 24 x1.toNatClampNeg ((σ 24 x1.toNatClampNeg) - (1 : Int32))
        if sf_in x1 40 then
          if (s2 24 x1.toNatClampNeg) < 0 then
            some ((0 : Int32), s2)
          else
            some ((1 : Int32), s2)
        else
          none
      else
        none
    else
      none
  else
  if x2 = (107 : Int32) then
    (dX12_passes x1 (σ 0 46) σ).bind fun u3 =>
    if u3.1 = 0 then
      some ((1 : Int32), u3.2)
    else
      some ((0 : Int32), u3.2)
  else
  if x2 = (116 : Int32) then
    if sf_in x1 40 then
      if sf_in x1 40 then
        let s4 := sf_up σ 24 x1.toNatClampNeg ((σ 24 x1.toNatClampNeg) + (1 : Int32))
        some ((0 : Int32), s4)
      else
        none
    else
      none
  else
  if x2 = (119 : Int32) then
    (dX12_passes x1 (σ 0 46) σ).bind fun u5 =>
    if u5.1 = 0 then
      some ((2 : Int32), u5.2)
    else
      some ((0 : Int32), u5.2)
  else
  if x2 = (120 : Int32) then
    if sf_in x1 40 then
      if ¬ (σ 24 x1.toNatClampNeg) = 0 then
        some ((0 : Int32), σ)
      else
        (dX12_opensFor x1 (σ 0 46) σ).bind fun u6 =>
        some ((1 : Int32), u6)
    else
      none
  else
  if x2 = (122 : Int32) then
    if sf_in x1 40 then
      if ¬ (σ 24 x1.toNatClampNeg) = 0 then
        if sf_in x1 40 then
          let s7 := sf_up σ 24 x1.toNatClampNeg (0 : Int32)
          if sf_in x1 40 then
            (dX12_joined x1 (s7 25 x1.toNatClampNeg) (s7 0 46) s7).bind fun u8 =>
            let s9 := sf_up u8.2 0 46 u8.1
            some ((0 : Int32), s9)
          else
            none
        else
          none
      else
        if sf_in x1 40 then
          let s10 := sf_up σ 25 x1.toNatClampNeg (σ 0 46)
          if sf_in x1 40 then
            let s11 := sf_up s10 24 x1.toNatClampNeg (1 : Int32)
            some ((1 : Int32), s11)
          else
            none
        else
          none
    else
      none
  else
    (dX12_made x1 (σ 0 46) σ).bind fun u12 =>
    let s13 := sf_up u12.2 0 46 u12.1
    some ((0 : Int32), s13)
noncomputable abbrev gX12_afterOne (av : List Value) (σ : sf_S) : Option (Int32 × sf_S) := match av with
  | [.ref q, .int x1, .int x2] => (match sf_rv [0] q with | true => dX12_afterOne x1 x2 σ | false => none)
  | _ => none
set_option maxRecDepth 100000 in
set_option maxHeartbeats 4000000 in
theorem rX12_afterOne {Wt : Nat → sf_L → List Value → sf_S → Prop} {Post : (Int32 × sf_S) → Prop} (hs : sf_Snd Wt sf_layM sf_hI jX12_afterOne tX12_afterOne Post) (hm : sf_mono Wt) : ∀ av σ u, gX12_afterOne av σ = some u → Post u → (∀ ad, (lg_sl (av.map (sf_v ad))).length ≤ 3) ∧ Wt 0 (sf_ent 0 av) [] σ := by
  intro av σ u h hp
  unfold gX12_afterOne at h
  split at h
  · rename_i q x1 x2
    split at h
    · rename_i hq
      have hq : q = 0 := by simpa using sf_rv_mem hq
      subst hq
      refine ⟨fun ad => Nat.le_of_ble_eq_true rfl, ?_⟩
      exact sf_run_ok hs sf_sm_nil 113 0 _ _ σ u h hp
    · cases h
  · cases h
theorem kX12_afterOne (l : Launch) : sf_C l sf_layM yX12_afterOne cX12_afterOne 3 (some .int) (sf_rm 3 146) (fun av σ => (gX12_afterOne av σ).map sf_vI) :=
  sf_met (tab := tX12_afterOne) (J := jX12_afterOne) (fl := sf_fl12) (cl := sf_cl12) (by decide +kernel) ⟨rfl, rfl⟩ sf_RH_I (by decide +kernel) sf_fl12_ok sf_cl12_ok
    (sf_JO_cons (sf_je_V (n := 3) (cs := [10]) (tv := sf_vI) (kX12_passes l) mwX12_passes (by decide +kernel : decode cX12_afterOne 74 = .ok (.invokevirtual 331, 3)) wt_1616 wt_1618 wt_121 (by decide +kernel) (by decide) (by decide) (List.forall_mem_cons.mpr ⟨⟨_, _, rfl⟩, fun _ h => absurd h List.not_mem_nil⟩) (sf_RM_of (by omega) (by omega))) (sf_JO_cons (sf_je_V (n := 3) (cs := [10]) (tv := sf_vI) (kX12_passes l) mwX12_passes (by decide +kernel : decode cX12_afterOne 92 = .ok (.invokevirtual 331, 3)) wt_1616 wt_1618 wt_121 (by decide +kernel) (by decide) (by decide) (List.forall_mem_cons.mpr ⟨⟨_, _, rfl⟩, fun _ h => absurd h List.not_mem_nil⟩) (sf_RM_of (by omega) (by omega))) (sf_JO_cons (sf_je_V (n := 4) (cs := [10]) (tv := sf_vI) (kX12_joined l) mwX12_joined (by decide +kernel : decode cX12_afterOne 189 = .ok (.invokevirtual 343, 3)) wt_1632 wt_1634 wt_125 (by decide +kernel) (by decide) (by decide) (List.forall_mem_cons.mpr ⟨⟨_, _, rfl⟩, fun _ h => absurd h List.not_mem_nil⟩) (sf_RM_of (by omega) (by omega))) (sf_JO_cons (sf_je_V (n := 3) (cs := [10]) (tv := sf_vV) (kX12_opensFor l) mwX12_opensFor (by decide +kernel : decode cX12_afterOne 212 = .ok (.invokevirtual 346, 3)) wt_1652 wt_1654 wt_130 (by decide +kernel) (by decide) (by decide) (List.forall_mem_cons.mpr ⟨⟨_, _, rfl⟩, fun _ h => absurd h List.not_mem_nil⟩) (sf_RM_of (by omega) (by omega))) (sf_JO_cons (sf_je_V (n := 3) (cs := [10]) (tv := sf_vI) (kX12_made l) mwX12_made (by decide +kernel : decode cX12_afterOne 226 = .ok (.invokevirtual 340, 3)) wt_1620 wt_1622 wt_122 (by decide +kernel) (by decide) (by decide) (List.forall_mem_cons.mpr ⟨⟨_, _, rfl⟩, fun _ h => absurd h List.not_mem_nil⟩) (sf_RM_of (by omega) (by omega))) (sf_JO_nil))))))
    (fun Wt Post hs hm => rX12_afterOne hs hm)
-- ===== StreamFuserModel.after(II)I =====
abbrev tX12_after : List (Nat × sf_E) := [(0, (.aload_n 0, 1, 0, .null, [], [])), (1, (.getfield 40, 4, 0, .null, [], [(10, 17)])), (4, (.iload_n 1, 5, 0, .null, [], [])), (5, (.iaload, 6, 0, .null, [], [])), (6, (.istore_n 3, 7, 0, .null, [], [])), (7, (.iload_n 3, 8, 0, .null, [], [])), (8, (.bipush 99, 10, 0, .int (99), [], [])), (10, (.if_icmp .ne 28, 13, 38, .null, [], [])), (13, (.iload_n 2, 14, 0, .null, [], [])), (14, (.iconst 2, 15, 0, .int (2), [], [])), (15, (.if_icmp .ne 21, 18, 36, .null, [], [])), (18, (.aload_n 0, 19, 0, .null, [], [])), (19, (.getfield 79, 22, 0, .null, [], [(10, 33)])), (22, (.iload_n 1, 23, 0, .null, [], [])), (23, (.iaload, 24, 0, .null, [], [])), (24, (.ifCond .ne 12, 27, 36, .null, [], [])), (27, (.aload_n 0, 28, 0, .null, [], [])), (28, (.getfield 79, 31, 0, .null, [], [(10, 33)])), (31, (.iload_n 1, 32, 0, .null, [], [])), (32, (.iconst 1, 33, 0, .int (1), [], [])), (33, (.iastore, 34, 0, .null, [], [])), (34, (.iconst 1, 35, 0, .int (1), [], [])), (35, (.ireturn, 36, 0, .null, [], [])), (36, (.iload_n 2, 37, 0, .null, [], [])), (37, (.ireturn, 38, 0, .null, [], [])), (38, (.iload_n 3, 39, 0, .null, [], [])), (39, (.bipush 120, 41, 0, .int (120), [], [])), (41, (.if_icmp .ne 27, 44, 68, .null, [], [])), (44, (.iload_n 2, 45, 0, .null, [], [])), (45, (.iconst 2, 46, 0, .int (2), [], [])), (46, (.if_icmp .ne 22, 49, 68, .null, [], [])), (49, (.aload_n 0, 50, 0, .null, [], [])), (50, (.getfield 79, 53, 0, .null, [], [(10, 33)])), (53, (.iload_n 1, 54, 0, .null, [], [])), (54, (.iaload, 55, 0, .null, [], [])), (55, (.iconst 1, 56, 0, .int (1), [], [])), (56, (.if_icmp .ne 12, 59, 68, .null, [], [])), (59, (.aload_n 0, 60, 0, .null, [], [])), (60, (.getfield 79, 63, 0, .null, [], [(10, 33)])), (63, (.iload_n 1, 64, 0, .null, [], [])), (64, (.iconst 0, 65, 0, .int (0), [], [])), (65, (.iastore, 66, 0, .null, [], [])), (66, (.iconst 1, 67, 0, .int (1), [], [])), (67, (.ireturn, 68, 0, .null, [], [])), (68, (.iload_n 2, 69, 0, .null, [], [])), (69, (.ifCond .ne 12, 72, 81, .null, [], [])), (72, (.aload_n 0, 73, 0, .null, [], [])), (73, (.iload_n 1, 74, 0, .null, [], [])), (74, (.iload_n 3, 75, 0, .null, [], [])), (75, (.invokevirtual 359, 78, 0, .null, [], [])), (78, (.goto 4, 81, 82, .null, [], [])), (81, (.iload_n 2, 82, 0, .null, [], [])), (82, (.ireturn, 83, 0, .null, [], []))]
noncomputable abbrev jX12_after : List (Nat × sf_J (Int32 × sf_S)) := [(75, sf_jI sf_layM [10] 3 gX12_afterOne)]
abbrev wX12_after_68 {ρ : Type} (k : Int32 → Int32 → Int32 → sf_S → Option ρ) : sf_M ρ := fun L st σ => sf_lda L 0 fun a0 => sf_eq a0 0 (sf_ldi L 1 fun x1 => sf_ldi L 2 fun x2 => sf_ldi L 3 fun x3 => sf_nil st (k x1 x2 x3 σ))
theorem wX12_after_68_ok {ρ : Type} {Wt : Nat → sf_L → List Value → sf_S → Prop} {Post : ρ → Prop} (hm : sf_mono Wt) {k : Int32 → Int32 → Int32 → sf_S → Option ρ} (h : ∀ (x1 : Int32) (x2 : Int32) (x3 : Int32) (σ : sf_S) (u : ρ), k x1 x2 x3 σ = some u → Post u → Wt 68 [(0, some (.ref 0)), (1, some (.int x1)), (2, some (.int x2)), (3, some (.int x3))] [] σ) : sf_CK Wt Post 68 (wX12_after_68 k) := by
  intro L st σ u hf hp
  unfold wX12_after_68 at hf
  have hf0 := hf
  obtain ⟨a0, e0, hf1⟩ := sf_lda_inv hf0
  obtain ⟨rfl, hf2⟩ := sf_eq_inv hf1
  obtain ⟨x1, e1, hf3⟩ := sf_ldi_inv hf2
  obtain ⟨x2, e2, hf4⟩ := sf_ldi_inv hf3
  obtain ⟨x3, e3, hf5⟩ := sf_ldi_inv hf4
  obtain ⟨rfl, hz⟩ := sf_nil_inv hf5
  exact hm _ [(0, some (.ref _)), (1, some (.int x1)), (2, some (.int x2)), (3, some (.int x3))] _ _ _ (sf_le_ok (And.intro e0 (And.intro e1 (And.intro e2 (And.intro e3 trivial))))) (h _ _ _ _ _ hz hp)
noncomputable def dX12_after_68 (x1 : Int32) (x2 : Int32) (x3 : Int32) (σ : sf_S) : Option (Int32 × sf_S) :=
  if ¬ x2 = 0 then
    some (x2, σ)
  else
    (dX12_afterOne x1 x3 σ).bind fun u1 =>
    some (u1.1, u1.2)
set_option maxRecDepth 100000 in
set_option maxHeartbeats 4000000 in
theorem rX12_after_68 {Wt : Nat → sf_L → List Value → sf_S → Prop} {Post : (Int32 × sf_S) → Prop} (hs : sf_Snd Wt sf_layM sf_hI jX12_after tX12_after Post) (hm : sf_mono Wt) : sf_CK Wt Post 68 (wX12_after_68 (dX12_after_68)) := by
  refine wX12_after_68_ok hm ?_
  intro x1 x2 x3 σ u h hp
  exact sf_run_ok hs sf_sm_nil 58 68 _ _ σ u h hp
noncomputable def dX12_after (x1 : Int32) (x2 : Int32) (σ : sf_S) : Option (Int32 × sf_S) :=
  if sf_in x1 40 then
    let v1 := (σ 11 x1.toNatClampNeg)
    if ¬ v1 = (99 : Int32) then
      if ¬ v1 = (120 : Int32) then
        dX12_after_68 x1 x2 v1 σ
      else
        if ¬ x2 = (2 : Int32) then
          dX12_after_68 x1 x2 v1 σ
        else
          if sf_in x1 40 then
            if ¬ (σ 24 x1.toNatClampNeg) = (1 : Int32) then
              dX12_after_68 x1 x2 v1 σ
            else
              if sf_in x1 40 then
                let s2 := sf_up σ 24 x1.toNatClampNeg (0 : Int32)
                some ((1 : Int32), s2)
              else
                none
          else
            none
    else
      if ¬ x2 = (2 : Int32) then
        some (x2, σ)
      else
        if sf_in x1 40 then
          if ¬ (σ 24 x1.toNatClampNeg) = 0 then
            some (x2, σ)
          else
            if sf_in x1 40 then
              let s3 := sf_up σ 24 x1.toNatClampNeg (1 : Int32)
              some ((1 : Int32), s3)
            else
              none
        else
          none
  else
    none
noncomputable abbrev gX12_after (av : List Value) (σ : sf_S) : Option (Int32 × sf_S) := match av with
  | [.ref q, .int x1, .int x2] => (match sf_rv [0] q with | true => dX12_after x1 x2 σ | false => none)
  | _ => none
set_option maxRecDepth 100000 in
set_option maxHeartbeats 4000000 in
theorem rX12_after {Wt : Nat → sf_L → List Value → sf_S → Prop} {Post : (Int32 × sf_S) → Prop} (hs : sf_Snd Wt sf_layM sf_hI jX12_after tX12_after Post) (hm : sf_mono Wt) : ∀ av σ u, gX12_after av σ = some u → Post u → (∀ ad, (lg_sl (av.map (sf_v ad))).length ≤ 4) ∧ Wt 0 (sf_ent 0 av) [] σ := by
  intro av σ u h hp
  unfold gX12_after at h
  split at h
  · rename_i q x1 x2
    split at h
    · rename_i hq
      have hq : q = 0 := by simpa using sf_rv_mem hq
      subst hq
      refine ⟨fun ad => Nat.le_of_ble_eq_true rfl, ?_⟩
      exact sf_run_ok hs (sf_sm_cons (rX12_after_68 hs hm) sf_sm_nil) 58 0 _ _ σ u h hp
    · cases h
  · cases h
theorem kX12_after (l : Launch) : sf_C l sf_layM yX12_after cX12_after 4 (some .int) (sf_rm 4 168) (fun av σ => (gX12_after av σ).map sf_vI) :=
  sf_met (tab := tX12_after) (J := jX12_after) (fl := sf_fl12) (cl := sf_cl12) (by decide +kernel) ⟨rfl, rfl⟩ sf_RH_I (by decide +kernel) sf_fl12_ok sf_cl12_ok
    (sf_JO_cons (sf_je_V (n := 3) (cs := [10]) (tv := sf_vI) (kX12_afterOne l) mwX12_afterOne (by decide +kernel : decode cX12_after 75 = .ok (.invokevirtual 359, 3)) wt_1648 wt_1650 wt_129 (by decide +kernel) (by decide) (by decide) (List.forall_mem_cons.mpr ⟨⟨_, _, rfl⟩, fun _ h => absurd h List.not_mem_nil⟩) (sf_RM_of (by omega) (by omega))) (sf_JO_nil))
    (fun Wt Post hs hm => rX12_after hs hm)
-- ===== StreamFuserModel.steps()I =====
abbrev tX12_steps : List (Nat × sf_E) := [(0, (.aload_n 0, 1, 0, .null, [], [])), (1, (.dup, 2, 0, .null, [], [])), (2, (.getfield 325, 5, 0, .null, [], [(10, 38)])), (5, (.iconst 1, 6, 0, .int (1), [], [])), (6, (.iadd, 7, 0, .null, [], [])), (7, (.putfield 325, 10, 0, .null, [], [(10, 38)])), (10, (.aload_n 0, 11, 0, .null, [], [])), (11, (.iconst 0, 12, 0, .int (0), [], [])), (12, (.putfield 349, 15, 0, .null, [], [(10, 48)])), (15, (.iconst 0, 16, 0, .int (0), [], [])), (16, (.istore_n 1, 17, 0, .null, [], [])), (17, (.iconst (-1), 18, 0, .int (-1), [], [])), (18, (.istore_n 2, 19, 0, .null, [], [])), (19, (.iconst 0, 20, 0, .int (0), [], [])), (20, (.istore_n 3, 21, 0, .null, [], [])), (21, (.iload_n 3, 22, 0, .null, [], [])), (22, (.bipush 41, 24, 0, .int (41), [], [])), (24, (.if_icmp .ge 145, 27, 169, .null, [], [])), (27, (.iload_n 2, 28, 0, .null, [], [])), (28, (.iconst (-1), 29, 0, .int (-1), [], [])), (29, (.if_icmp .ne 140, 32, 169, .null, [], [])), (32, (.aload_n 0, 33, 0, .null, [], [])), (33, (.getfield 40, 36, 0, .null, [], [(10, 17)])), (36, (.iload_n 1, 37, 0, .null, [], [])), (37, (.iaload, 38, 0, .null, [], [])), (38, (.istore 4, 40, 0, .null, [], [])), (40, (.iload 4, 42, 0, .null, [], [])), (42, (.invokestatic 163, 45, 0, .null, [], [])), (45, (.ifCond .ne 24, 48, 69, .null, [], [])), (48, (.aload_n 0, 49, 0, .null, [], [])), (49, (.iload_n 1, 50, 0, .null, [], [])), (50, (.invokevirtual 328, 53, 0, .null, [], [])), (53, (.aload_n 0, 54, 0, .null, [], [])), (54, (.getfield 309, 57, 0, .null, [], [(10, 45)])), (57, (.ifCond .eq 7, 60, 64, .null, [], [])), (60, (.iconst 0, 61, 0, .int (0), [], [])), (61, (.goto 4, 64, 65, .null, [], [])), (64, (.iconst 2, 65, 0, .int (2), [], [])), (65, (.istore_n 2, 66, 0, .null, [], [])), (66, (.goto 97, 69, 163, .null, [], [])), (69, (.iload 4, 71, 0, .null, [], [])), (71, (.bipush 116, 73, 0, .int (116), [], [])), (73, (.if_icmp .ne 23, 76, 96, .null, [], [])), (76, (.aload_n 0, 77, 0, .null, [], [])), (77, (.getfield 79, 80, 0, .null, [], [(10, 33)])), (80, (.iload_n 1, 81, 0, .null, [], [])), (81, (.iaload, 82, 0, .null, [], [])), (82, (.aload_n 0, 83, 0, .null, [], [])), (83, (.getfield 46, 86, 0, .null, [], [(10, 19)])), (86, (.iload_n 1, 87, 0, .null, [], [])), (87, (.iaload, 88, 0, .null, [], [])), (88, (.if_icmp .ne 8, 91, 96, .null, [], [])), (91, (.iconst 2, 92, 0, .int (2), [], [])), (92, (.istore_n 2, 93, 0, .null, [], [])), (93, (.goto 70, 96, 163, .null, [], [])), (96, (.aload_n 0, 97, 0, .null, [], [])), (97, (.getfield 94, 100, 0, .null, [], [(10, 47)])), (100, (.aload_n 0, 101, 0, .null, [], [])), (101, (.getfield 349, 104, 0, .null, [], [(10, 48)])), (104, (.iload_n 1, 105, 0, .null, [], [])), (105, (.iastore, 106, 0, .null, [], [])), (106, (.aload_n 0, 107, 0, .null, [], [])), (107, (.dup, 108, 0, .null, [], [])), (108, (.getfield 349, 111, 0, .null, [], [(10, 48)])), (111, (.iconst 1, 112, 0, .int (1), [], [])), (112, (.iadd, 113, 0, .null, [], [])), (113, (.putfield 349, 116, 0, .null, [], [(10, 48)])), (116, (.iload 4, 118, 0, .null, [], [])), (118, (.bipush 99, 120, 0, .int (99), [], [])), (120, (.if_icmp .eq 17, 123, 137, .null, [], [])), (123, (.iload 4, 125, 0, .null, [], [])), (125, (.bipush 120, 127, 0, .int (120), [], [])), (127, (.if_icmp .eq 10, 130, 137, .null, [], [])), (130, (.iload 4, 132, 0, .null, [], [])), (132, (.bipush 122, 134, 0, .int (122), [], [])), (134, (.if_icmp .ne 22, 137, 156, .null, [], [])), (137, (.aload_n 0, 138, 0, .null, [], [])), (138, (.getfield 79, 141, 0, .null, [], [(10, 33)])), (141, (.iload_n 1, 142, 0, .null, [], [])), (142, (.iaload, 143, 0, .null, [], [])), (143, (.iconst 1, 144, 0, .int (1), [], [])), (144, (.if_icmp .ne 12, 147, 156, .null, [], [])), (147, (.aload_n 0, 148, 0, .null, [], [])), (148, (.getfield 58, 151, 0, .null, [], [(10, 24)])), (151, (.iload_n 1, 152, 0, .null, [], [])), (152, (.iaload, 153, 0, .null, [], [])), (153, (.goto 9, 156, 162, .null, [], [])), (156, (.aload_n 0, 157, 0, .null, [], [])), (157, (.getfield 55, 160, 0, .null, [], [(10, 23)])), (160, (.iload_n 1, 161, 0, .null, [], [])), (161, (.iaload, 162, 0, .null, [], [])), (162, (.istore_n 1, 163, 0, .null, [], [])), (163, (.iinc 3 1, 166, 0, .int (1), [], [])), (166, (.goto (-145), 169, 21, .null, [], [])), (169, (.aload_n 0, 170, 0, .null, [], [])), (170, (.getfield 349, 173, 0, .null, [], [(10, 48)])), (173, (.iconst 1, 174, 0, .int (1), [], [])), (174, (.isub, 175, 0, .null, [], [])), (175, (.istore_n 3, 176, 0, .null, [], [])), (176, (.iload_n 3, 177, 0, .null, [], [])), (177, (.ifCond .lt 28, 180, 205, .null, [], [])), (180, (.aload_n 0, 181, 0, .null, [], [])), (181, (.getfield 294, 184, 0, .null, [], [(10, 35)])), (184, (.ifCond .ne 21, 187, 205, .null, [], [])), (187, (.aload_n 0, 188, 0, .null, [], [])), (188, (.aload_n 0, 189, 0, .null, [], [])), (189, (.getfield 94, 192, 0, .null, [], [(10, 47)])), (192, (.iload_n 3, 193, 0, .null, [], [])), (193, (.iaload, 194, 0, .null, [], [])), (194, (.iload_n 2, 195, 0, .null, [], [])), (195, (.invokevirtual 362, 198, 0, .null, [], [])), (198, (.istore_n 2, 199, 0, .null, [], [])), (199, (.iinc 3 (-1), 202, 0, .int (-1), [], [])), (202, (.goto (-26), 205, 176, .null, [], [])), (205, (.iload_n 2, 206, 0, .null, [], [])), (206, (.ireturn, 207, 0, .null, [], []))]
noncomputable abbrev jX12_steps : List (Nat × sf_J (Int32 × sf_S)) := [(42, sf_jI sf_layM [] 1 gX12_partsOf), (50, sf_jV sf_layM [10] 2 gX12_gives), (195, sf_jI sf_layM [10] 3 gX12_after)]
abbrev wX12_steps_176 {ρ : Type} (k : Int32 → Int32 → sf_S → Option ρ) : sf_M ρ := fun L st σ => sf_lda L 0 fun a0 => sf_eq a0 0 (sf_ldi L 2 fun x2 => sf_ldi L 3 fun x3 => sf_nil st (k x2 x3 σ))
theorem wX12_steps_176_ok {ρ : Type} {Wt : Nat → sf_L → List Value → sf_S → Prop} {Post : ρ → Prop} (hm : sf_mono Wt) {k : Int32 → Int32 → sf_S → Option ρ} (h : ∀ (x2 : Int32) (x3 : Int32) (σ : sf_S) (u : ρ), k x2 x3 σ = some u → Post u → Wt 176 [(0, some (.ref 0)), (2, some (.int x2)), (3, some (.int x3))] [] σ) : sf_CK Wt Post 176 (wX12_steps_176 k) := by
  intro L st σ u hf hp
  unfold wX12_steps_176 at hf
  have hf0 := hf
  obtain ⟨a0, e0, hf1⟩ := sf_lda_inv hf0
  obtain ⟨rfl, hf2⟩ := sf_eq_inv hf1
  obtain ⟨x2, e2, hf3⟩ := sf_ldi_inv hf2
  obtain ⟨x3, e3, hf4⟩ := sf_ldi_inv hf3
  obtain ⟨rfl, hz⟩ := sf_nil_inv hf4
  exact hm _ [(0, some (.ref _)), (2, some (.int x2)), (3, some (.int x3))] _ _ _ (sf_le_ok (And.intro e0 (And.intro e2 (And.intro e3 trivial)))) (h _ _ _ _ hz hp)
abbrev wX12_steps_137 {ρ : Type} (k : Int32 → Int32 → Int32 → sf_S → Option ρ) : sf_M ρ := fun L st σ => sf_lda L 0 fun a0 => sf_eq a0 0 (sf_ldi L 1 fun x1 => sf_ldi L 2 fun x2 => sf_ldi L 3 fun x3 => sf_nil st (k x1 x2 x3 σ))
theorem wX12_steps_137_ok {ρ : Type} {Wt : Nat → sf_L → List Value → sf_S → Prop} {Post : ρ → Prop} (hm : sf_mono Wt) {k : Int32 → Int32 → Int32 → sf_S → Option ρ} (h : ∀ (x1 : Int32) (x2 : Int32) (x3 : Int32) (σ : sf_S) (u : ρ), k x1 x2 x3 σ = some u → Post u → Wt 137 [(0, some (.ref 0)), (1, some (.int x1)), (2, some (.int x2)), (3, some (.int x3))] [] σ) : sf_CK Wt Post 137 (wX12_steps_137 k) := by
  intro L st σ u hf hp
  unfold wX12_steps_137 at hf
  have hf0 := hf
  obtain ⟨a0, e0, hf1⟩ := sf_lda_inv hf0
  obtain ⟨rfl, hf2⟩ := sf_eq_inv hf1
  obtain ⟨x1, e1, hf3⟩ := sf_ldi_inv hf2
  obtain ⟨x2, e2, hf4⟩ := sf_ldi_inv hf3
  obtain ⟨x3, e3, hf5⟩ := sf_ldi_inv hf4
  obtain ⟨rfl, hz⟩ := sf_nil_inv hf5
  exact hm _ [(0, some (.ref _)), (1, some (.int x1)), (2, some (.int x2)), (3, some (.int x3))] _ _ _ (sf_le_ok (And.intro e0 (And.intro e1 (And.intro e2 (And.intro e3 trivial))))) (h _ _ _ _ _ hz hp)
abbrev wX12_steps_96 {ρ : Type} (k : Int32 → Int32 → Int32 → Int32 → sf_S → Option ρ) : sf_M ρ := fun L st σ => sf_lda L 0 fun a0 => sf_eq a0 0 (sf_ldi L 1 fun x1 => sf_ldi L 2 fun x2 => sf_ldi L 3 fun x3 => sf_ldi L 4 fun x4 => sf_nil st (k x1 x2 x3 x4 σ))
theorem wX12_steps_96_ok {ρ : Type} {Wt : Nat → sf_L → List Value → sf_S → Prop} {Post : ρ → Prop} (hm : sf_mono Wt) {k : Int32 → Int32 → Int32 → Int32 → sf_S → Option ρ} (h : ∀ (x1 : Int32) (x2 : Int32) (x3 : Int32) (x4 : Int32) (σ : sf_S) (u : ρ), k x1 x2 x3 x4 σ = some u → Post u → Wt 96 [(0, some (.ref 0)), (1, some (.int x1)), (2, some (.int x2)), (3, some (.int x3)), (4, some (.int x4))] [] σ) : sf_CK Wt Post 96 (wX12_steps_96 k) := by
  intro L st σ u hf hp
  unfold wX12_steps_96 at hf
  have hf0 := hf
  obtain ⟨a0, e0, hf1⟩ := sf_lda_inv hf0
  obtain ⟨rfl, hf2⟩ := sf_eq_inv hf1
  obtain ⟨x1, e1, hf3⟩ := sf_ldi_inv hf2
  obtain ⟨x2, e2, hf4⟩ := sf_ldi_inv hf3
  obtain ⟨x3, e3, hf5⟩ := sf_ldi_inv hf4
  obtain ⟨x4, e4, hf6⟩ := sf_ldi_inv hf5
  obtain ⟨rfl, hz⟩ := sf_nil_inv hf6
  exact hm _ [(0, some (.ref _)), (1, some (.int x1)), (2, some (.int x2)), (3, some (.int x3)), (4, some (.int x4))] _ _ _ (sf_le_ok (And.intro e0 (And.intro e1 (And.intro e2 (And.intro e3 (And.intro e4 trivial)))))) (h _ _ _ _ _ _ hz hp)
abbrev wX12_steps_21 {ρ : Type} (k : Int32 → Int32 → Int32 → sf_S → Option ρ) : sf_M ρ := fun L st σ => sf_lda L 0 fun a0 => sf_eq a0 0 (sf_ldi L 1 fun x1 => sf_ldi L 2 fun x2 => sf_ldi L 3 fun x3 => sf_nil st (k x1 x2 x3 σ))
theorem wX12_steps_21_ok {ρ : Type} {Wt : Nat → sf_L → List Value → sf_S → Prop} {Post : ρ → Prop} (hm : sf_mono Wt) {k : Int32 → Int32 → Int32 → sf_S → Option ρ} (h : ∀ (x1 : Int32) (x2 : Int32) (x3 : Int32) (σ : sf_S) (u : ρ), k x1 x2 x3 σ = some u → Post u → Wt 21 [(0, some (.ref 0)), (1, some (.int x1)), (2, some (.int x2)), (3, some (.int x3))] [] σ) : sf_CK Wt Post 21 (wX12_steps_21 k) := by
  intro L st σ u hf hp
  unfold wX12_steps_21 at hf
  have hf0 := hf
  obtain ⟨a0, e0, hf1⟩ := sf_lda_inv hf0
  obtain ⟨rfl, hf2⟩ := sf_eq_inv hf1
  obtain ⟨x1, e1, hf3⟩ := sf_ldi_inv hf2
  obtain ⟨x2, e2, hf4⟩ := sf_ldi_inv hf3
  obtain ⟨x3, e3, hf5⟩ := sf_ldi_inv hf4
  obtain ⟨rfl, hz⟩ := sf_nil_inv hf5
  exact hm _ [(0, some (.ref _)), (1, some (.int x1)), (2, some (.int x2)), (3, some (.int x3))] _ _ _ (sf_le_ok (And.intro e0 (And.intro e1 (And.intro e2 (And.intro e3 trivial))))) (h _ _ _ _ _ hz hp)
noncomputable def dX12_steps_176 : Nat → Int32 → Int32 → sf_S → Option (Int32 × sf_S)
  | 0 => fun _ _ _ => none
  | n + 1 => fun x2 x3 σ =>
    if x3 < 0 then
      some (x2, σ)
    else
      if ¬ (σ 0 35) = 0 then
        some (x2, σ)
      else
        if sf_in x3 41 then
          (dX12_after (σ 29 x3.toNatClampNeg) x2 σ).bind fun u1 =>
          dX12_steps_176 n u1.1 (x3 + (-1 : Int32)) u1.2
        else
          none
set_option maxRecDepth 100000 in
set_option maxHeartbeats 4000000 in
theorem rX12_steps_176 {Wt : Nat → sf_L → List Value → sf_S → Prop} {Post : (Int32 × sf_S) → Prop} (hs : sf_Snd Wt sf_layM sf_hI jX12_steps tX12_steps Post) (hm : sf_mono Wt) : ∀ n : Nat, sf_CK Wt Post 176 (wX12_steps_176 (dX12_steps_176 n)) := by
  intro n
  induction n with
  | zero => exact wX12_steps_176_ok hm (fun x2 x3 σ u h _ => by simp [dX12_steps_176] at h)
  | succ n ih =>
    refine wX12_steps_176_ok hm ?_
    intro x2 x3 σ u h hp
    exact sf_run_ok hs (sf_sm_cons ih sf_sm_nil) 121 176 _ _ σ u h hp
noncomputable def dX12_steps_137 (K21 : Int32 → Int32 → Int32 → sf_S → Option (Int32 × sf_S)) (x1 : Int32) (x2 : Int32) (x3 : Int32) (σ : sf_S) : Option (Int32 × sf_S) :=
  if sf_in x1 40 then
    if ¬ (σ 24 x1.toNatClampNeg) = (1 : Int32) then
      if sf_in x1 40 then
        let v1 := (σ 16 x1.toNatClampNeg)
        K21 v1 x2 (x3 + (1 : Int32)) σ
      else
        none
    else
      if sf_in x1 40 then
        let v2 := (σ 17 x1.toNatClampNeg)
        K21 v2 x2 (x3 + (1 : Int32)) σ
      else
        none
  else
    none
set_option maxRecDepth 100000 in
set_option maxHeartbeats 4000000 in
theorem rX12_steps_137 {Wt : Nat → sf_L → List Value → sf_S → Prop} {Post : (Int32 × sf_S) → Prop} (hs : sf_Snd Wt sf_layM sf_hI jX12_steps tX12_steps Post) (hm : sf_mono Wt) {K21 : Int32 → Int32 → Int32 → sf_S → Option (Int32 × sf_S)} (hK21 : sf_CK Wt Post 21 (wX12_steps_21 K21)) : sf_CK Wt Post 137 (wX12_steps_137 (dX12_steps_137 K21)) := by
  refine wX12_steps_137_ok hm ?_
  intro x1 x2 x3 σ u h hp
  exact sf_run_ok hs (sf_sm_cons hK21 sf_sm_nil) 121 137 _ _ σ u h hp
noncomputable def dX12_steps_96 (K21 : Int32 → Int32 → Int32 → sf_S → Option (Int32 × sf_S)) (x1 : Int32) (x2 : Int32) (x3 : Int32) (x4 : Int32) (σ : sf_S) : Option (Int32 × sf_S) :=
  let v1 := (σ 0 48)
  if sf_in v1 41 then
    let s2 := sf_up σ 29 v1.toNatClampNeg x1
    let s3 := sf_up s2 0 48 ((s2 0 48) + (1 : Int32))
    if x4 = (99 : Int32) then
      dX12_steps_137 K21 x1 x2 x3 s3
    else
      if x4 = (120 : Int32) then
        dX12_steps_137 K21 x1 x2 x3 s3
      else
        if ¬ x4 = (122 : Int32) then
          if sf_in x1 40 then
            let v4 := (s3 16 x1.toNatClampNeg)
            K21 v4 x2 (x3 + (1 : Int32)) s3
          else
            none
        else
          dX12_steps_137 K21 x1 x2 x3 s3
  else
    none
set_option maxRecDepth 100000 in
set_option maxHeartbeats 4000000 in
theorem rX12_steps_96 {Wt : Nat → sf_L → List Value → sf_S → Prop} {Post : (Int32 × sf_S) → Prop} (hs : sf_Snd Wt sf_layM sf_hI jX12_steps tX12_steps Post) (hm : sf_mono Wt) {K21 : Int32 → Int32 → Int32 → sf_S → Option (Int32 × sf_S)} (hK21 : sf_CK Wt Post 21 (wX12_steps_21 K21)) : sf_CK Wt Post 96 (wX12_steps_96 (dX12_steps_96 K21)) := by
  refine wX12_steps_96_ok hm ?_
  intro x1 x2 x3 x4 σ u h hp
  exact sf_run_ok hs (sf_sm_cons hK21 (sf_sm_cons (rX12_steps_137 hs hm hK21) sf_sm_nil)) 121 96 _ _ σ u h hp
noncomputable def dX12_steps_21 : Nat → Int32 → Int32 → Int32 → sf_S → Option (Int32 × sf_S)
  | 0 => fun _ _ _ _ => none
  | n + 1 => fun x1 x2 x3 σ =>
    if (41 : Int32) ≤ x3 then
      let v1 := ((σ 0 48) - (1 : Int32))
      dX12_steps_176 sf_F x2 v1 σ
    else
      if ¬ x2 = (-1 : Int32) then
        let v2 := ((σ 0 48) - (1 : Int32))
        dX12_steps_176 sf_F x2 v2 σ
      else
        if sf_in x1 40 then
          let v3 := (σ 11 x1.toNatClampNeg)
          (dX12_partsOf v3 σ).bind fun u4 =>
          if ¬ u4.1 = 0 then
            if ¬ v3 = (116 : Int32) then
              dX12_steps_96 (dX12_steps_21 n) x1 x2 x3 v3 u4.2
            else
              if sf_in x1 40 then
                if sf_in x1 40 then
                  if ¬ (u4.2 24 x1.toNatClampNeg) = (u4.2 13 x1.toNatClampNeg) then
                    dX12_steps_96 (dX12_steps_21 n) x1 x2 x3 v3 u4.2
                  else
                    dX12_steps_21 n x1 (2 : Int32) (x3 + (1 : Int32)) u4.2
                else
                  none
              else
                none
          else
            (dX12_gives x1 u4.2).bind fun u5 =>
            if (u5 0 45) = 0 then
              dX12_steps_21 n x1 (2 : Int32) (x3 + (1 : Int32)) u5
            else
              dX12_steps_21 n x1 (0 : Int32) (x3 + (1 : Int32)) u5
        else
          none
set_option maxRecDepth 100000 in
set_option maxHeartbeats 4000000 in
theorem rX12_steps_21 {Wt : Nat → sf_L → List Value → sf_S → Prop} {Post : (Int32 × sf_S) → Prop} (hs : sf_Snd Wt sf_layM sf_hI jX12_steps tX12_steps Post) (hm : sf_mono Wt) : ∀ n : Nat, sf_CK Wt Post 21 (wX12_steps_21 (dX12_steps_21 n)) := by
  intro n
  induction n with
  | zero => exact wX12_steps_21_ok hm (fun x1 x2 x3 σ u h _ => by simp [dX12_steps_21] at h)
  | succ n ih =>
    refine wX12_steps_21_ok hm ?_
    intro x1 x2 x3 σ u h hp
    exact sf_run_ok hs (sf_sm_cons ih (sf_sm_cons (rX12_steps_96 hs hm ih) (sf_sm_cons (rX12_steps_176 hs hm sf_F) sf_sm_nil))) 121 21 _ _ σ u h hp
noncomputable def dX12_steps (σ : sf_S) : Option (Int32 × sf_S) :=
  let s1 := sf_up σ 0 38 ((σ 0 38) + (1 : Int32))
  let s2 := sf_up s1 0 48 (0 : Int32)
  dX12_steps_21 sf_F (0 : Int32) (-1 : Int32) (0 : Int32) s2
noncomputable abbrev gX12_steps (av : List Value) (σ : sf_S) : Option (Int32 × sf_S) := match av with
  | [.ref q] => (match sf_rv [0] q with | true => dX12_steps σ | false => none)
  | _ => none
set_option maxRecDepth 100000 in
set_option maxHeartbeats 4000000 in
theorem rX12_steps {Wt : Nat → sf_L → List Value → sf_S → Prop} {Post : (Int32 × sf_S) → Prop} (hs : sf_Snd Wt sf_layM sf_hI jX12_steps tX12_steps Post) (hm : sf_mono Wt) : ∀ av σ u, gX12_steps av σ = some u → Post u → (∀ ad, (lg_sl (av.map (sf_v ad))).length ≤ 5) ∧ Wt 0 (sf_ent 0 av) [] σ := by
  intro av σ u h hp
  unfold gX12_steps at h
  split at h
  · rename_i q
    split at h
    · rename_i hq
      have hq : q = 0 := by simpa using sf_rv_mem hq
      subst hq
      refine ⟨fun ad => Nat.le_of_ble_eq_true rfl, ?_⟩
      exact sf_run_ok hs (sf_sm_cons (rX12_steps_21 hs hm sf_F) sf_sm_nil) 121 0 _ _ σ u h hp
    · cases h
  · cases h
theorem kX12_steps (l : Launch) : sf_C l sf_layM yX12_steps cX12_steps 5 (some .int) (sf_rm 5 191) (fun av σ => (gX12_steps av σ).map sf_vI) :=
  sf_met (tab := tX12_steps) (J := jX12_steps) (fl := sf_fl12) (cl := sf_cl12) (by decide +kernel) ⟨rfl, rfl⟩ sf_RH_I (by decide +kernel) sf_fl12_ok sf_cl12_ok
    (sf_JO_cons (sf_je_S (n := 1) (tv := sf_vI) (kX12_partsOf l) mwX12_partsOf (by decide +kernel : decode cX12_steps 42 = .ok (.invokestatic 163, 3)) wt_1431 wt_1432 (by decide +kernel) (sf_RM_of (by omega) (by omega))) (sf_JO_cons (sf_je_V (n := 2) (cs := [10]) (tv := sf_vV) (kX12_gives l) mwX12_gives (by decide +kernel : decode cX12_steps 50 = .ok (.invokevirtual 328, 3)) wt_1640 wt_1642 wt_127 (by decide +kernel) (by decide) (by decide) (List.forall_mem_cons.mpr ⟨⟨_, _, rfl⟩, fun _ h => absurd h List.not_mem_nil⟩) (sf_RM_of (by omega) (by omega))) (sf_JO_cons (sf_je_V (n := 3) (cs := [10]) (tv := sf_vI) (kX12_after l) mwX12_after (by decide +kernel : decode cX12_steps 195 = .ok (.invokevirtual 362, 3)) wt_1644 wt_1646 wt_128 (by decide +kernel) (by decide) (by decide) (List.forall_mem_cons.mpr ⟨⟨_, _, rfl⟩, fun _ h => absurd h List.not_mem_nil⟩) (sf_RM_of (by omega) (by omega))) (sf_JO_nil))))
    (fun Wt Post hs hm => rX12_steps hs hm)
-- ===== StreamFuserModel.adds(II)V =====
abbrev tX12_adds : List (Nat × sf_E) := [(0, (.aload_n 0, 1, 0, .null, [], [])), (1, (.getfield 97, 4, 0, .null, [], [(10, 49)])), (4, (.bipush 60, 6, 0, .int (60), [], [])), (6, (.iload_n 1, 7, 0, .null, [], [])), (7, (.imul, 8, 0, .null, [], [])), (8, (.aload_n 0, 9, 0, .null, [], [])), (9, (.getfield 100, 12, 0, .null, [], [(10, 50)])), (12, (.iload_n 1, 13, 0, .null, [], [])), (13, (.iaload, 14, 0, .null, [], [])), (14, (.iadd, 15, 0, .null, [], [])), (15, (.iload_n 2, 16, 0, .null, [], [])), (16, (.iastore, 17, 0, .null, [], [])), (17, (.aload_n 0, 18, 0, .null, [], [])), (18, (.getfield 100, 21, 0, .null, [], [(10, 50)])), (21, (.iload_n 1, 22, 0, .null, [], [])), (22, (.dup2, 23, 0, .null, [], [])), (23, (.iaload, 24, 0, .null, [], [])), (24, (.iconst 1, 25, 0, .int (1), [], [])), (25, (.iadd, 26, 0, .null, [], [])), (26, (.iastore, 27, 0, .null, [], [])), (27, (.return_, 28, 0, .null, [], []))]
noncomputable abbrev jX12_adds : List (Nat × sf_J sf_S) := []
noncomputable def dX12_adds (x1 : Int32) (x2 : Int32) (σ : sf_S) : Option sf_S :=
  if sf_in x1 40 then
    let v1 := (((60 : Int32) * x1) + (σ 31 x1.toNatClampNeg))
    if sf_in v1 2400 then
      let s2 := sf_up σ 30 v1.toNatClampNeg x2
      if sf_in x1 40 then
        if sf_in x1 40 then
          let s3 := sf_up s2 31 x1.toNatClampNeg ((s2 31 x1.toNatClampNeg) + (1 : Int32))
          some s3
        else
          none
      else
        none
    else
      none
  else
    none
noncomputable abbrev gX12_adds (av : List Value) (σ : sf_S) : Option sf_S := match av with
  | [.ref q, .int x1, .int x2] => (match sf_rv [0] q with | true => dX12_adds x1 x2 σ | false => none)
  | _ => none
set_option maxRecDepth 100000 in
set_option maxHeartbeats 4000000 in
theorem rX12_adds {Wt : Nat → sf_L → List Value → sf_S → Prop} {Post : sf_S → Prop} (hs : sf_Snd Wt sf_layM sf_hV jX12_adds tX12_adds Post) (hm : sf_mono Wt) : ∀ av σ u, gX12_adds av σ = some u → Post u → (∀ ad, (lg_sl (av.map (sf_v ad))).length ≤ 3) ∧ Wt 0 (sf_ent 0 av) [] σ := by
  intro av σ u h hp
  unfold gX12_adds at h
  split at h
  · rename_i q x1 x2
    split at h
    · rename_i hq
      have hq : q = 0 := by simpa using sf_rv_mem hq
      subst hq
      refine ⟨fun ad => Nat.le_of_ble_eq_true rfl, ?_⟩
      exact sf_run_ok hs sf_sm_nil 26 0 _ _ σ u h hp
    · cases h
  · cases h
theorem kX12_adds (l : Launch) : sf_C l sf_layM yX12_adds cX12_adds 3 none (sf_rm 1 100) (fun av σ => (gX12_adds av σ).map sf_vV) :=
  sf_met (tab := tX12_adds) (J := jX12_adds) (fl := sf_fl12) (cl := sf_cl12) (by decide +kernel) ⟨rfl, rfl⟩ sf_RH_V (by decide +kernel) sf_fl12_ok sf_cl12_ok
    (sf_JO_nil)
    (fun Wt Post hs hm => rX12_adds hs hm)
-- ===== StreamFuserModel.fills(I)V =====
abbrev tX12_fills : List (Nat × sf_E) := [(0, (.aload_n 0, 1, 0, .null, [], [])), (1, (.getfield 43, 4, 0, .null, [], [(10, 18)])), (4, (.iload_n 1, 5, 0, .null, [], [])), (5, (.iaload, 6, 0, .null, [], [])), (6, (.istore_n 2, 7, 0, .null, [], [])), (7, (.aload_n 0, 8, 0, .null, [], [])), (8, (.getfield 67, 11, 0, .null, [], [(10, 27)])), (11, (.iload_n 1, 12, 0, .null, [], [])), (12, (.iaload, 13, 0, .null, [], [])), (13, (.iconst (-1), 14, 0, .int (-1), [], [])), (14, (.if_icmp .ne 7, 17, 21, .null, [], [])), (17, (.iconst 0, 18, 0, .int (0), [], [])), (18, (.goto 14, 21, 32, .null, [], [])), (21, (.aload_n 0, 22, 0, .null, [], [])), (22, (.getfield 82, 25, 0, .null, [], [(10, 34)])), (25, (.aload_n 0, 26, 0, .null, [], [])), (26, (.getfield 67, 29, 0, .null, [], [(10, 27)])), (29, (.iload_n 1, 30, 0, .null, [], [])), (30, (.iaload, 31, 0, .null, [], [])), (31, (.iaload, 32, 0, .null, [], [])), (32, (.istore_n 3, 33, 0, .null, [], [])), (33, (.lconst 1, 34, 0, .long 1, [], [])), (34, (.lstore 4, 36, 0, .null, [], [])), (36, (.aload_n 0, 37, 0, .null, [], [])), (37, (.getfield 40, 40, 0, .null, [], [(10, 17)])), (40, (.iload_n 1, 41, 0, .null, [], [])), (41, (.iaload, 42, 0, .null, [], [])), (42, (.tableswitch 82 114 117 #[30, 50, 82, 75], 72, 124, .null, [((114), 72), ((115), 92), ((116), 124), ((117), 117)], [])), (72, (.aload_n 0, 73, 0, .null, [], [])), (73, (.getfield 49, 76, 0, .null, [], [(10, 20)])), (76, (.iload_n 1, 77, 0, .null, [], [])), (77, (.iaload, 78, 0, .null, [], [])), (78, (.i2l, 79, 0, .null, [], [])), (79, (.aload_n 0, 80, 0, .null, [], [])), (80, (.getfield 46, 83, 0, .null, [], [(10, 19)])), (83, (.iload_n 1, 84, 0, .null, [], [])), (84, (.iaload, 85, 0, .null, [], [])), (85, (.i2l, 86, 0, .null, [], [])), (86, (.lsub, 87, 0, .null, [], [])), (87, (.lstore 4, 89, 0, .null, [], [])), (89, (.goto 35, 92, 124, .null, [], [])), (92, (.aload_n 0, 93, 0, .null, [], [])), (93, (.getfield 7, 96, 0, .null, [], [(10, 0)])), (96, (.iload_n 2, 97, 0, .null, [], [])), (97, (.iaload, 98, 0, .null, [], [])), (98, (.ifCond .ge 7, 101, 105, .null, [], [])), (101, (.lconst 0, 102, 0, .long 0, [], [])), (102, (.goto 10, 105, 112, .null, [], [])), (105, (.aload_n 0, 106, 0, .null, [], [])), (106, (.getfield 13, 109, 0, .null, [], [(10, 1)])), (109, (.iload_n 2, 110, 0, .null, [], [])), (110, (.iaload, 111, 0, .null, [], [])), (111, (.i2l, 112, 0, .null, [], [])), (112, (.lstore 4, 114, 0, .null, [], [])), (114, (.goto 10, 117, 124, .null, [], [])), (117, (.iload_n 3, 118, 0, .null, [], [])), (118, (.i2l, 119, 0, .null, [], [])), (119, (.lstore 4, 121, 0, .null, [], [])), (121, (.goto 3, 124, 124, .null, [], [])), (124, (.aload_n 0, 125, 0, .null, [], [])), (125, (.getfield 40, 128, 0, .null, [], [(10, 17)])), (128, (.iload_n 1, 129, 0, .null, [], [])), (129, (.iaload, 130, 0, .null, [], [])), (130, (.bipush 115, 132, 0, .int (115), [], [])), (132, (.if_icmp .ne 21, 135, 153, .null, [], [])), (135, (.aload_n 0, 136, 0, .null, [], [])), (136, (.getfield 7, 139, 0, .null, [], [(10, 0)])), (139, (.iload_n 2, 140, 0, .null, [], [])), (140, (.iaload, 141, 0, .null, [], [])), (141, (.ifCond .ge 12, 144, 153, .null, [], [])), (144, (.aload_n 0, 145, 0, .null, [], [])), (145, (.iconst 2, 146, 0, .int (2), [], [])), (146, (.iload_n 1, 147, 0, .null, [], [])), (147, (.invokevirtual 306, 150, 0, .null, [], [])), (150, (.goto 18, 153, 168, .null, [], [])), (153, (.lload 4, 155, 0, .null, [], [])), (155, (.ldc2_w 365, 158, 0, .long (60), [], [])), (158, (.lcmp, 159, 0, .null, [], [])), (159, (.ifCond .le 9, 162, 168, .null, [], [])), (162, (.aload_n 0, 163, 0, .null, [], [])), (163, (.iconst 4, 164, 0, .int (4), [], [])), (164, (.iload_n 1, 165, 0, .null, [], [])), (165, (.invokevirtual 306, 168, 0, .null, [], [])), (168, (.iconst 0, 169, 0, .int (0), [], [])), (169, (.istore 6, 171, 0, .null, [], [])), (171, (.iload 6, 173, 0, .null, [], [])), (173, (.i2l, 174, 0, .null, [], [])), (174, (.lload 4, 176, 0, .null, [], [])), (176, (.lcmp, 177, 0, .null, [], [])), (177, (.ifCond .ge 94, 180, 271, .null, [], [])), (180, (.aload_n 0, 181, 0, .null, [], [])), (181, (.getfield 294, 184, 0, .null, [], [(10, 35)])), (184, (.ifCond .ne 87, 187, 271, .null, [], [])), (187, (.aload_n 0, 188, 0, .null, [], [])), (188, (.invokevirtual 315, 191, 0, .null, [], [])), (191, (.ifCond .eq 74, 194, 265, .null, [], [])), (194, (.aload_n 0, 195, 0, .null, [], [])), (195, (.iload_n 1, 196, 0, .null, [], [])), (196, (.aload_n 0, 197, 0, .null, [], [])), (197, (.getfield 40, 200, 0, .null, [], [(10, 17)])), (200, (.iload_n 1, 201, 0, .null, [], [])), (201, (.iaload, 202, 0, .null, [], [])), (202, (.bipush 114, 204, 0, .int (114), [], [])), (204, (.if_icmp .ne 15, 207, 219, .null, [], [])), (207, (.aload_n 0, 208, 0, .null, [], [])), (208, (.getfield 46, 211, 0, .null, [], [(10, 19)])), (211, (.iload_n 1, 212, 0, .null, [], [])), (212, (.iaload, 213, 0, .null, [], [])), (213, (.iload 6, 215, 0, .null, [], [])), (215, (.iadd, 216, 0, .null, [], [])), (216, (.goto 46, 219, 262, .null, [], [])), (219, (.aload_n 0, 220, 0, .null, [], [])), (220, (.getfield 40, 223, 0, .null, [], [(10, 17)])), (223, (.iload_n 1, 224, 0, .null, [], [])), (224, (.iaload, 225, 0, .null, [], [])), (225, (.bipush 115, 227, 0, .int (115), [], [])), (227, (.if_icmp .ne 18, 230, 245, .null, [], [])), (230, (.aload_n 0, 231, 0, .null, [], [])), (231, (.getfield 16, 234, 0, .null, [], [(10, 2)])), (234, (.bipush 60, 236, 0, .int (60), [], [])), (236, (.iload_n 2, 237, 0, .null, [], [])), (237, (.imul, 238, 0, .null, [], [])), (238, (.iload 6, 240, 0, .null, [], [])), (240, (.iadd, 241, 0, .null, [], [])), (241, (.iaload, 242, 0, .null, [], [])), (242, (.goto 20, 245, 262, .null, [], [])), (245, (.aload_n 0, 246, 0, .null, [], [])), (246, (.getfield 40, 249, 0, .null, [], [(10, 17)])), (249, (.iload_n 1, 250, 0, .null, [], [])), (250, (.iaload, 251, 0, .null, [], [])), (251, (.bipush 117, 253, 0, .int (117), [], [])), (253, (.if_icmp .ne 8, 256, 261, .null, [], [])), (256, (.iload 6, 258, 0, .null, [], [])), (258, (.goto 4, 261, 262, .null, [], [])), (261, (.iload_n 3, 262, 0, .null, [], [])), (262, (.invokevirtual 367, 265, 0, .null, [], [])), (265, (.iinc 6 1, 268, 0, .int (1), [], [])), (268, (.goto (-97), 271, 171, .null, [], [])), (271, (.return_, 272, 0, .null, [], []))]
noncomputable abbrev jX12_fills : List (Nat × sf_J sf_S) := [(147, sf_jV sf_layM [10] 3 gX12_fails), (165, sf_jV sf_layM [10] 3 gX12_fails), (188, sf_jI sf_layM [10] 1 gX12_draws), (262, sf_jV sf_layM [10] 3 gX12_adds)]
abbrev wX12_fills_171 {ρ : Type} (k : Int32 → Int32 → Int32 → Int64 → Int32 → sf_S → Option ρ) : sf_M ρ := fun L st σ => sf_lda L 0 fun a0 => sf_eq a0 0 (sf_ldi L 1 fun x1 => sf_ldi L 2 fun x2 => sf_ldi L 3 fun x3 => sf_ldl L 4 fun x4 => sf_ldi L 6 fun x6 => sf_nil st (k x1 x2 x3 x4 x6 σ))
theorem wX12_fills_171_ok {ρ : Type} {Wt : Nat → sf_L → List Value → sf_S → Prop} {Post : ρ → Prop} (hm : sf_mono Wt) {k : Int32 → Int32 → Int32 → Int64 → Int32 → sf_S → Option ρ} (h : ∀ (x1 : Int32) (x2 : Int32) (x3 : Int32) (x4 : Int64) (x6 : Int32) (σ : sf_S) (u : ρ), k x1 x2 x3 x4 x6 σ = some u → Post u → Wt 171 [(0, some (.ref 0)), (1, some (.int x1)), (2, some (.int x2)), (3, some (.int x3)), (4, some (.long x4)), (6, some (.int x6))] [] σ) : sf_CK Wt Post 171 (wX12_fills_171 k) := by
  intro L st σ u hf hp
  unfold wX12_fills_171 at hf
  have hf0 := hf
  obtain ⟨a0, e0, hf1⟩ := sf_lda_inv hf0
  obtain ⟨rfl, hf2⟩ := sf_eq_inv hf1
  obtain ⟨x1, e1, hf3⟩ := sf_ldi_inv hf2
  obtain ⟨x2, e2, hf4⟩ := sf_ldi_inv hf3
  obtain ⟨x3, e3, hf5⟩ := sf_ldi_inv hf4
  obtain ⟨x4, e4, hf6⟩ := sf_ldl_inv hf5
  obtain ⟨x6, e6, hf7⟩ := sf_ldi_inv hf6
  obtain ⟨rfl, hz⟩ := sf_nil_inv hf7
  exact hm _ [(0, some (.ref _)), (1, some (.int x1)), (2, some (.int x2)), (3, some (.int x3)), (4, some (.long x4)), (6, some (.int x6))] _ _ _ (sf_le_ok (And.intro e0 (And.intro e1 (And.intro e2 (And.intro e3 (And.intro e4 (And.intro e6 trivial))))))) (h _ _ _ _ _ _ _ hz hp)
abbrev wX12_fills_153 {ρ : Type} (k : Int32 → Int32 → Int32 → Int64 → sf_S → Option ρ) : sf_M ρ := fun L st σ => sf_lda L 0 fun a0 => sf_eq a0 0 (sf_ldi L 1 fun x1 => sf_ldi L 2 fun x2 => sf_ldi L 3 fun x3 => sf_ldl L 4 fun x4 => sf_nil st (k x1 x2 x3 x4 σ))
theorem wX12_fills_153_ok {ρ : Type} {Wt : Nat → sf_L → List Value → sf_S → Prop} {Post : ρ → Prop} (hm : sf_mono Wt) {k : Int32 → Int32 → Int32 → Int64 → sf_S → Option ρ} (h : ∀ (x1 : Int32) (x2 : Int32) (x3 : Int32) (x4 : Int64) (σ : sf_S) (u : ρ), k x1 x2 x3 x4 σ = some u → Post u → Wt 153 [(0, some (.ref 0)), (1, some (.int x1)), (2, some (.int x2)), (3, some (.int x3)), (4, some (.long x4))] [] σ) : sf_CK Wt Post 153 (wX12_fills_153 k) := by
  intro L st σ u hf hp
  unfold wX12_fills_153 at hf
  have hf0 := hf
  obtain ⟨a0, e0, hf1⟩ := sf_lda_inv hf0
  obtain ⟨rfl, hf2⟩ := sf_eq_inv hf1
  obtain ⟨x1, e1, hf3⟩ := sf_ldi_inv hf2
  obtain ⟨x2, e2, hf4⟩ := sf_ldi_inv hf3
  obtain ⟨x3, e3, hf5⟩ := sf_ldi_inv hf4
  obtain ⟨x4, e4, hf6⟩ := sf_ldl_inv hf5
  obtain ⟨rfl, hz⟩ := sf_nil_inv hf6
  exact hm _ [(0, some (.ref _)), (1, some (.int x1)), (2, some (.int x2)), (3, some (.int x3)), (4, some (.long x4))] _ _ _ (sf_le_ok (And.intro e0 (And.intro e1 (And.intro e2 (And.intro e3 (And.intro e4 trivial)))))) (h _ _ _ _ _ _ hz hp)
abbrev wX12_fills_124 {ρ : Type} (k : Int32 → Int32 → Int32 → Int64 → sf_S → Option ρ) : sf_M ρ := fun L st σ => sf_lda L 0 fun a0 => sf_eq a0 0 (sf_ldi L 1 fun x1 => sf_ldi L 2 fun x2 => sf_ldi L 3 fun x3 => sf_ldl L 4 fun x4 => sf_nil st (k x1 x2 x3 x4 σ))
theorem wX12_fills_124_ok {ρ : Type} {Wt : Nat → sf_L → List Value → sf_S → Prop} {Post : ρ → Prop} (hm : sf_mono Wt) {k : Int32 → Int32 → Int32 → Int64 → sf_S → Option ρ} (h : ∀ (x1 : Int32) (x2 : Int32) (x3 : Int32) (x4 : Int64) (σ : sf_S) (u : ρ), k x1 x2 x3 x4 σ = some u → Post u → Wt 124 [(0, some (.ref 0)), (1, some (.int x1)), (2, some (.int x2)), (3, some (.int x3)), (4, some (.long x4))] [] σ) : sf_CK Wt Post 124 (wX12_fills_124 k) := by
  intro L st σ u hf hp
  unfold wX12_fills_124 at hf
  have hf0 := hf
  obtain ⟨a0, e0, hf1⟩ := sf_lda_inv hf0
  obtain ⟨rfl, hf2⟩ := sf_eq_inv hf1
  obtain ⟨x1, e1, hf3⟩ := sf_ldi_inv hf2
  obtain ⟨x2, e2, hf4⟩ := sf_ldi_inv hf3
  obtain ⟨x3, e3, hf5⟩ := sf_ldi_inv hf4
  obtain ⟨x4, e4, hf6⟩ := sf_ldl_inv hf5
  obtain ⟨rfl, hz⟩ := sf_nil_inv hf6
  exact hm _ [(0, some (.ref _)), (1, some (.int x1)), (2, some (.int x2)), (3, some (.int x3)), (4, some (.long x4))] _ _ _ (sf_le_ok (And.intro e0 (And.intro e1 (And.intro e2 (And.intro e3 (And.intro e4 trivial)))))) (h _ _ _ _ _ _ hz hp)
abbrev wX12_fills_32 {ρ : Type} (k : Int32 → Int32 → Int32 → sf_S → Option ρ) : sf_M ρ := fun L st σ => sf_lda L 0 fun a0 => sf_eq a0 0 (sf_ldi L 1 fun x1 => sf_ldi L 2 fun x2 => sf_i1 st fun y0 st => sf_nil st (k x1 x2 y0 σ))
theorem wX12_fills_32_ok {ρ : Type} {Wt : Nat → sf_L → List Value → sf_S → Prop} {Post : ρ → Prop} (hm : sf_mono Wt) {k : Int32 → Int32 → Int32 → sf_S → Option ρ} (h : ∀ (x1 : Int32) (x2 : Int32) (y0 : Int32) (σ : sf_S) (u : ρ), k x1 x2 y0 σ = some u → Post u → Wt 32 [(0, some (.ref 0)), (1, some (.int x1)), (2, some (.int x2))] [.int y0] σ) : sf_CK Wt Post 32 (wX12_fills_32 k) := by
  intro L st σ u hf hp
  unfold wX12_fills_32 at hf
  have hf0 := hf
  obtain ⟨a0, e0, hf1⟩ := sf_lda_inv hf0
  obtain ⟨rfl, hf2⟩ := sf_eq_inv hf1
  obtain ⟨x1, e1, hf3⟩ := sf_ldi_inv hf2
  obtain ⟨x2, e2, hf4⟩ := sf_ldi_inv hf3
  obtain ⟨y0, st, rfl, hf5⟩ := sf_i1_inv hf4
  obtain ⟨rfl, hz⟩ := sf_nil_inv hf5
  exact hm _ [(0, some (.ref _)), (1, some (.int x1)), (2, some (.int x2))] _ _ _ (sf_le_ok (And.intro e0 (And.intro e1 (And.intro e2 trivial)))) (h _ _ _ _ _ hz hp)
noncomputable def dX12_fills_171 : Nat → Int32 → Int32 → Int32 → Int64 → Int32 → sf_S → Option sf_S
  | 0 => fun _ _ _ _ _ _ => none
  | n + 1 => fun x1 x2 x3 x4 x6 σ =>
    if 0 ≤ (lg_cmp x6.toInt64 x4) then
      some σ
    else
      if ¬ (σ 0 35) = 0 then
        some σ
      else
        (dX12_draws σ).bind fun u1 =>
        if u1.1 = 0 then
          dX12_fills_171 n x1 x2 x3 x4 (x6 + (1 : Int32)) u1.2
        else
          if sf_in x1 40 then
            if ¬ (u1.2 11 x1.toNatClampNeg) = (114 : Int32) then
              if sf_in x1 40 then
                if ¬ (u1.2 11 x1.toNatClampNeg) = (115 : Int32) then
                  if sf_in x1 40 then
                    if ¬ (u1.2 11 x1.toNatClampNeg) = (117 : Int32) then
                      (dX12_adds x1 x3 u1.2).bind fun u2 =>
                      dX12_fills_171 n x1 x2 x3 x4 (x6 + (1 : Int32)) u2
                    else
                      (dX12_adds x1 x6 u1.2).bind fun u3 =>
                      dX12_fills_171 n x1 x2 x3 x4 (x6 + (1 : Int32)) u3
                  else
                    none
                else
                  let v4 := (((60 : Int32) * x2) + x6)
                  if sf_in v4 240 then
                    (dX12_adds x1 (u1.2 3 v4.toNatClampNeg) u1.2).bind fun u5 =>
                    dX12_fills_171 n x1 x2 x3 x4 (x6 + (1 : Int32)) u5
                  else
                    none
              else
                none
            else
              if sf_in x1 40 then
                (dX12_adds x1 ((u1.2 13 x1.toNatClampNeg) + x6) u1.2).bind fun u6 =>
                dX12_fills_171 n x1 x2 x3 x4 (x6 + (1 : Int32)) u6
              else
                none
          else
            none
set_option maxRecDepth 100000 in
set_option maxHeartbeats 4000000 in
theorem rX12_fills_171 {Wt : Nat → sf_L → List Value → sf_S → Prop} {Post : sf_S → Prop} (hs : sf_Snd Wt sf_layM sf_hV jX12_fills tX12_fills Post) (hm : sf_mono Wt) : ∀ n : Nat, sf_CK Wt Post 171 (wX12_fills_171 (dX12_fills_171 n)) := by
  intro n
  induction n with
  | zero => exact wX12_fills_171_ok hm (fun x1 x2 x3 x4 x6 σ u h _ => by simp [dX12_fills_171] at h)
  | succ n ih =>
    refine wX12_fills_171_ok hm ?_
    intro x1 x2 x3 x4 x6 σ u h hp
    exact sf_run_ok hs (sf_sm_cons ih sf_sm_nil) 144 171 _ _ σ u h hp
noncomputable def dX12_fills_153 (x1 : Int32) (x2 : Int32) (x3 : Int32) (x4 : Int64) (σ : sf_S) : Option sf_S :=
  if (lg_cmp x4 (60 : Int64)) ≤ 0 then
    dX12_fills_171 sf_F x1 x2 x3 x4 (0 : Int32) σ
  else
    (dX12_fails (4 : Int32) x1 σ).bind fun u1 =>
    dX12_fills_171 sf_F x1 x2 x3 x4 (0 : Int32) u1
set_option maxRecDepth 100000 in
set_option maxHeartbeats 4000000 in
theorem rX12_fills_153 {Wt : Nat → sf_L → List Value → sf_S → Prop} {Post : sf_S → Prop} (hs : sf_Snd Wt sf_layM sf_hV jX12_fills tX12_fills Post) (hm : sf_mono Wt) : sf_CK Wt Post 153 (wX12_fills_153 (dX12_fills_153)) := by
  refine wX12_fills_153_ok hm ?_
  intro x1 x2 x3 x4 σ u h hp
  exact sf_run_ok hs (sf_sm_cons (rX12_fills_171 hs hm sf_F) sf_sm_nil) 144 153 _ _ σ u h hp
noncomputable def dX12_fills_124 (x1 : Int32) (x2 : Int32) (x3 : Int32) (x4 : Int64) (σ : sf_S) : Option sf_S :=
  if sf_in x1 40 then
    if ¬ (σ 11 x1.toNatClampNeg) = (115 : Int32) then
      dX12_fills_153 x1 x2 x3 x4 σ
    else
      if sf_in x2 4 then
        if 0 ≤ (σ 1 x2.toNatClampNeg) then
          dX12_fills_153 x1 x2 x3 x4 σ
        else
          (dX12_fails (2 : Int32) x1 σ).bind fun u1 =>
          dX12_fills_171 sf_F x1 x2 x3 x4 (0 : Int32) u1
      else
        none
  else
    none
set_option maxRecDepth 100000 in
set_option maxHeartbeats 4000000 in
theorem rX12_fills_124 {Wt : Nat → sf_L → List Value → sf_S → Prop} {Post : sf_S → Prop} (hs : sf_Snd Wt sf_layM sf_hV jX12_fills tX12_fills Post) (hm : sf_mono Wt) : sf_CK Wt Post 124 (wX12_fills_124 (dX12_fills_124)) := by
  refine wX12_fills_124_ok hm ?_
  intro x1 x2 x3 x4 σ u h hp
  exact sf_run_ok hs (sf_sm_cons (rX12_fills_153 hs hm) (sf_sm_cons (rX12_fills_171 hs hm sf_F) sf_sm_nil)) 144 124 _ _ σ u h hp
noncomputable def dX12_fills_32 (x1 : Int32) (x2 : Int32) (y0 : Int32) (σ : sf_S) : Option sf_S :=
  if sf_in x1 40 then
    let v1 := (σ 11 x1.toNatClampNeg)
    if v1 = (114 : Int32) then
      if sf_in x1 40 then
        if sf_in x1 40 then
          let v2 := (((σ 14 x1.toNatClampNeg)).toInt64 - ((σ 13 x1.toNatClampNeg)).toInt64)
          dX12_fills_124 x1 x2 y0 v2 σ
        else
          none
      else
        none
    else
    if v1 = (115 : Int32) then
      if sf_in x2 4 then
        if 0 ≤ (σ 1 x2.toNatClampNeg) then
          if sf_in x2 4 then
            let v3 := ((σ 2 x2.toNatClampNeg)).toInt64
            dX12_fills_124 x1 x2 y0 v3 σ
          else
            none
        else
          dX12_fills_124 x1 x2 y0 (0 : Int64) σ
      else
        none
    else
    if v1 = (116 : Int32) then
      dX12_fills_124 x1 x2 y0 (1 : Int64) σ
    else
    if v1 = (117 : Int32) then
      dX12_fills_124 x1 x2 y0 y0.toInt64 σ
    else
      dX12_fills_124 x1 x2 y0 (1 : Int64) σ
  else
    none
set_option maxRecDepth 100000 in
set_option maxHeartbeats 4000000 in
theorem rX12_fills_32 {Wt : Nat → sf_L → List Value → sf_S → Prop} {Post : sf_S → Prop} (hs : sf_Snd Wt sf_layM sf_hV jX12_fills tX12_fills Post) (hm : sf_mono Wt) : sf_CK Wt Post 32 (wX12_fills_32 (dX12_fills_32)) := by
  refine wX12_fills_32_ok hm ?_
  intro x1 x2 y0 σ u h hp
  exact sf_run_ok hs (sf_sm_cons (rX12_fills_124 hs hm) sf_sm_nil) 144 32 _ _ σ u h hp
noncomputable def dX12_fills (x1 : Int32) (σ : sf_S) : Option sf_S :=
  if sf_in x1 40 then
    let v1 := (σ 12 x1.toNatClampNeg)
    if sf_in x1 40 then
      if ¬ (σ 20 x1.toNatClampNeg) = (-1 : Int32) then
        if sf_in x1 40 then
          let v2 := (σ 20 x1.toNatClampNeg)
          if sf_in v2 40 then
            dX12_fills_32 x1 v1 (σ 25 v2.toNatClampNeg) σ
          else
            none
        else
          none
      else
        dX12_fills_32 x1 v1 (0 : Int32) σ
    else
      none
  else
    none
noncomputable abbrev gX12_fills (av : List Value) (σ : sf_S) : Option sf_S := match av with
  | [.ref q, .int x1] => (match sf_rv [0] q with | true => dX12_fills x1 σ | false => none)
  | _ => none
set_option maxRecDepth 100000 in
set_option maxHeartbeats 4000000 in
theorem rX12_fills {Wt : Nat → sf_L → List Value → sf_S → Prop} {Post : sf_S → Prop} (hs : sf_Snd Wt sf_layM sf_hV jX12_fills tX12_fills Post) (hm : sf_mono Wt) : ∀ av σ u, gX12_fills av σ = some u → Post u → (∀ ad, (lg_sl (av.map (sf_v ad))).length ≤ 7) ∧ Wt 0 (sf_ent 0 av) [] σ := by
  intro av σ u h hp
  unfold gX12_fills at h
  split at h
  · rename_i q x1
    split at h
    · rename_i hq
      have hq : q = 0 := by simpa using sf_rv_mem hq
      subst hq
      refine ⟨fun ad => Nat.le_of_ble_eq_true rfl, ?_⟩
      exact sf_run_ok hs (sf_sm_cons (rX12_fills_32 hs hm) sf_sm_nil) 144 0 _ _ σ u h hp
    · cases h
  · cases h
theorem kX12_fills (l : Launch) : sf_C l sf_layM yX12_fills cX12_fills 7 none (sf_rm 3 142) (fun av σ => (gX12_fills av σ).map sf_vV) :=
  sf_met (tab := tX12_fills) (J := jX12_fills) (fl := sf_fl12) (cl := sf_cl12) (by decide +kernel) ⟨rfl, rfl⟩ sf_RH_V (by decide +kernel) sf_fl12_ok sf_cl12_ok
    (sf_JO_cons (sf_je_V (n := 3) (cs := [10]) (tv := sf_vV) (kX12_fails l) mwX12_fails (by decide +kernel : decode cX12_fills 147 = .ok (.invokevirtual 306, 3)) wt_1595 wt_1597 wt_116 (by decide +kernel) (by decide) (by decide) (List.forall_mem_cons.mpr ⟨⟨_, _, rfl⟩, fun _ h => absurd h List.not_mem_nil⟩) (sf_RM_of (by omega) (by omega))) (sf_JO_cons (sf_je_V (n := 3) (cs := [10]) (tv := sf_vV) (kX12_fails l) mwX12_fails (by decide +kernel : decode cX12_fills 165 = .ok (.invokevirtual 306, 3)) wt_1595 wt_1597 wt_116 (by decide +kernel) (by decide) (by decide) (List.forall_mem_cons.mpr ⟨⟨_, _, rfl⟩, fun _ h => absurd h List.not_mem_nil⟩) (sf_RM_of (by omega) (by omega))) (sf_JO_cons (sf_je_V (n := 1) (cs := [10]) (tv := sf_vI) (kX12_draws l) mwX12_draws (by decide +kernel : decode cX12_fills 188 = .ok (.invokevirtual 315, 3)) wt_1608 wt_1610 wt_119 (by decide +kernel) (by decide) (by decide) (List.forall_mem_cons.mpr ⟨⟨_, _, rfl⟩, fun _ h => absurd h List.not_mem_nil⟩) (sf_RM_of (by omega) (by omega))) (sf_JO_cons (sf_je_V (n := 3) (cs := [10]) (tv := sf_vV) (kX12_adds l) mwX12_adds (by decide +kernel : decode cX12_fills 262 = .ok (.invokevirtual 367, 3)) wt_1599 wt_1601 wt_117 (by decide +kernel) (by decide) (by decide) (List.forall_mem_cons.mpr ⟨⟨_, _, rfl⟩, fun _ h => absurd h List.not_mem_nil⟩) (sf_RM_of (by omega) (by omega))) (sf_JO_nil)))))
    (fun Wt Post hs hm => rX12_fills hs hm)
