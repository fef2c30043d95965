/-! ===== 30.X12, goes on ===== -/
-- ===== StreamFuserModel.plan()I =====
abbrev tX12_plan : List (Nat × sf_E) := [(0, (.aload_n 0, 1, 0, .null, [], [])), (1, (.invokevirtual 202, 4, 0, .null, [], [])), (4, (.istore_n 1, 5, 0, .null, [], [])), (5, (.iload_n 1, 6, 0, .null, [], [])), (6, (.iconst (-1), 7, 0, .int (-1), [], [])), (7, (.if_icmp .eq 9, 10, 16, .null, [], [])), (10, (.sipush (-1000), 13, 0, .int (-1000), [], [])), (13, (.iload_n 1, 14, 0, .null, [], [])), (14, (.isub, 15, 0, .null, [], [])), (15, (.ireturn, 16, 0, .null, [], [])), (16, (.iconst 0, 17, 0, .int (0), [], [])), (17, (.istore_n 2, 18, 0, .null, [], [])), (18, (.iload_n 2, 19, 0, .null, [], [])), (19, (.aload_n 0, 20, 0, .null, [], [])), (20, (.getfield 169, 23, 0, .null, [], [(10, 16)])), (23, (.if_icmp .ge 57, 26, 80, .null, [], [])), (26, (.aload_n 0, 27, 0, .null, [], [])), (27, (.getfield 40, 30, 0, .null, [], [(10, 17)])), (30, (.iload_n 2, 31, 0, .null, [], [])), (31, (.aload_n 0, 32, 0, .null, [], [])), (32, (.getfield 28, 35, 0, .null, [], [(10, 12)])), (35, (.iload_n 2, 36, 0, .null, [], [])), (36, (.iaload, 37, 0, .null, [], [])), (37, (.iastore, 38, 0, .null, [], [])), (38, (.aload_n 0, 39, 0, .null, [], [])), (39, (.getfield 43, 42, 0, .null, [], [(10, 18)])), (42, (.iload_n 2, 43, 0, .null, [], [])), (43, (.aload_n 0, 44, 0, .null, [], [])), (44, (.getfield 31, 47, 0, .null, [], [(10, 13)])), (47, (.iload_n 2, 48, 0, .null, [], [])), (48, (.iaload, 49, 0, .null, [], [])), (49, (.iastore, 50, 0, .null, [], [])), (50, (.aload_n 0, 51, 0, .null, [], [])), (51, (.getfield 46, 54, 0, .null, [], [(10, 19)])), (54, (.iload_n 2, 55, 0, .null, [], [])), (55, (.aload_n 0, 56, 0, .null, [], [])), (56, (.getfield 34, 59, 0, .null, [], [(10, 14)])), (59, (.iload_n 2, 60, 0, .null, [], [])), (60, (.iaload, 61, 0, .null, [], [])), (61, (.iastore, 62, 0, .null, [], [])), (62, (.aload_n 0, 63, 0, .null, [], [])), (63, (.getfield 49, 66, 0, .null, [], [(10, 20)])), (66, (.iload_n 2, 67, 0, .null, [], [])), (67, (.aload_n 0, 68, 0, .null, [], [])), (68, (.getfield 37, 71, 0, .null, [], [(10, 15)])), (71, (.iload_n 2, 72, 0, .null, [], [])), (72, (.iaload, 73, 0, .null, [], [])), (73, (.iastore, 74, 0, .null, [], [])), (74, (.iinc 2 1, 77, 0, .int (1), [], [])), (77, (.goto (-59), 80, 18, .null, [], [])), (80, (.aload_n 0, 81, 0, .null, [], [])), (81, (.aload_n 0, 82, 0, .null, [], [])), (82, (.getfield 169, 85, 0, .null, [], [(10, 16)])), (85, (.putfield 206, 88, 0, .null, [], [(10, 21)])), (88, (.aload_n 0, 89, 0, .null, [], [])), (89, (.invokevirtual 213, 92, 0, .null, [], [])), (92, (.aload_n 0, 93, 0, .null, [], [])), (93, (.getfield 206, 96, 0, .null, [], [(10, 21)])), (96, (.ireturn, 97, 0, .null, [], []))]
noncomputable abbrev jX12_plan : List (Nat × sf_J (Int32 × sf_S)) := [(1, sf_jI sf_layM [10] 1 gX12_faultNow), (89, sf_jV sf_layM [10] 1 gX12_places)]
abbrev wX12_plan_18 {ρ : Type} (k : Int32 → sf_S → Option ρ) : sf_M ρ := fun L st σ => sf_lda L 0 fun a0 => sf_eq a0 0 (sf_ldi L 2 fun x2 => sf_nil st (k x2 σ))
theorem wX12_plan_18_ok {ρ : Type} {Wt : Nat → sf_L → List Value → sf_S → Prop} {Post : ρ → Prop} (hm : sf_mono Wt) {k : Int32 → sf_S → Option ρ} (h : ∀ (x2 : Int32) (σ : sf_S) (u : ρ), k x2 σ = some u → Post u → Wt 18 [(0, some (.ref 0)), (2, some (.int x2))] [] σ) : sf_CK Wt Post 18 (wX12_plan_18 k) := by
  intro L st σ u hf hp
  unfold wX12_plan_18 at hf
  have hf0 := hf
  obtain ⟨a0, e0, hf1⟩ := sf_lda_inv hf0
  obtain ⟨rfl, hf2⟩ := sf_eq_inv hf1
  obtain ⟨x2, e2, hf3⟩ := sf_ldi_inv hf2
  obtain ⟨rfl, hz⟩ := sf_nil_inv hf3
  exact hm _ [(0, some (.ref _)), (2, some (.int x2))] _ _ _ (sf_le_ok (And.intro e0 (And.intro e2 trivial))) (h _ _ _ hz hp)
noncomputable def dX12_plan_18 : Nat → Int32 → sf_S → Option (Int32 × sf_S)
  | 0 => fun _ _ => none
  | n + 1 => fun x2 σ =>
    if (σ 0 16) ≤ x2 then
      let s1 := sf_up σ 0 21 (σ 0 16)
      (dX12_places s1).bind fun u2 =>
      some ((u2 0 21), u2)
    else
      if sf_in x2 40 then
        if sf_in x2 40 then
          let s3 := sf_up σ 11 x2.toNatClampNeg (σ 7 x2.toNatClampNeg)
          if sf_in x2 40 then
            if sf_in x2 40 then
              let s4 := sf_up s3 12 x2.toNatClampNeg (s3 8 x2.toNatClampNeg)
              if sf_in x2 40 then
                if sf_in x2 40 then
                  let s5 := sf_up s4 13 x2.toNatClampNeg (s4 9 x2.toNatClampNeg)
                  if sf_in x2 40 then
                    if sf_in x2 40 then
                      let s6 := sf_up s5 14 x2.toNatClampNeg (s5 10 x2.toNatClampNeg)
                      dX12_plan_18 n (x2 + (1 : Int32)) s6
                    else
                      none
                  else
                    none
                else
                  none
              else
                none
            else
              none
          else
            none
        else
          none
      else
        none
set_option maxRecDepth 100000 in
set_option maxHeartbeats 4000000 in
theorem rX12_plan_18 {Wt : Nat → sf_L → List Value → sf_S → Prop} {Post : (Int32 × sf_S) → Prop} (hs : sf_Snd Wt sf_layM sf_hI jX12_plan tX12_plan Post) (hm : sf_mono Wt) : ∀ n : Nat, sf_CK Wt Post 18 (wX12_plan_18 (dX12_plan_18 n)) := by
  intro n
  induction n with
  | zero => exact wX12_plan_18_ok hm (fun x2 σ u h _ => by simp [dX12_plan_18] at h)
  | succ n ih =>
    refine wX12_plan_18_ok hm ?_
    intro x2 σ u h hp
    exact sf_run_ok hs (sf_sm_cons ih sf_sm_nil) 64 18 _ _ σ u h hp
noncomputable def dX12_plan (σ : sf_S) : Option (Int32 × sf_S) :=
  (dX12_faultNow σ).bind fun u1 =>
  if u1.1 = (-1 : Int32) then
    dX12_plan_18 sf_F (0 : Int32) u1.2
  else
    some (((-1000 : Int32) - u1.1), u1.2)
noncomputable abbrev gX12_plan (av : List Value) (σ : sf_S) : Option (Int32 × sf_S) := match av with
  | [.ref q] => (match sf_rv [0] q with | true => dX12_plan σ | false => none)
  | _ => none
set_option maxRecDepth 100000 in
set_option maxHeartbeats 4000000 in
theorem rX12_plan {Wt : Nat → sf_L → List Value → sf_S → Prop} {Post : (Int32 × sf_S) → Prop} (hs : sf_Snd Wt sf_layM sf_hI jX12_plan tX12_plan Post) (hm : sf_mono Wt) : ∀ av σ u, gX12_plan av σ = some u → Post u → (∀ ad, (lg_sl (av.map (sf_v ad))).length ≤ 3) ∧ Wt 0 (sf_ent 0 av) [] σ := by
  intro av σ u h hp
  unfold gX12_plan at h
  split at h
  · rename_i q
    split at h
    · rename_i hq
      have hq : q = 0 := by simpa using sf_rv_mem hq
      subst hq
      refine ⟨fun ad => Nat.le_of_ble_eq_true rfl, ?_⟩
      exact sf_run_ok hs (sf_sm_cons (rX12_plan_18 hs hm sf_F) sf_sm_nil) 64 0 _ _ σ u h hp
    · cases h
  · cases h
theorem kX12_plan (l : Launch) : sf_C l sf_layM yX12_plan cX12_plan 3 (some .int) (sf_rm 5 190) (fun av σ => (gX12_plan av σ).map sf_vI) :=
  sf_met (tab := tX12_plan) (J := jX12_plan) (fl := sf_fl12) (cl := sf_cl12) (by decide +kernel) ⟨rfl, rfl⟩ sf_RH_I (by decide +kernel) sf_fl12_ok sf_cl12_ok
    (sf_JO_cons (sf_je_V (n := 1) (cs := [10]) (tv := sf_vI) (kX12_faultNow l) mwX12_faultNow (by decide +kernel : decode cX12_plan 1 = .ok (.invokevirtual 202, 3)) wt_1423 wt_1425 wt_85 (by decide +kernel) (by decide) (by decide) (List.forall_mem_cons.mpr ⟨⟨_, _, rfl⟩, fun _ h => absurd h List.not_mem_nil⟩) (sf_RM_of (by omega) (by omega))) (sf_JO_cons (sf_je_V (n := 1) (cs := [10]) (tv := sf_vV) (kX12_places l) mwX12_places (by decide +kernel : decode cX12_plan 89 = .ok (.invokevirtual 213, 3)) wt_1457 wt_1459 wt_91 (by decide +kernel) (by decide) (by decide) (List.forall_mem_cons.mpr ⟨⟨_, _, rfl⟩, fun _ h => absurd h List.not_mem_nil⟩) (sf_RM_of (by omega) (by omega))) (sf_JO_nil)))
    (fun Wt Post hs hm => rX12_plan hs hm)
-- ===== StreamFuserModel.isPure(I)Z =====
abbrev tX12_isPure : List (Nat × sf_E) := [(0, (.iload_n 1, 1, 0, .null, [], [])), (1, (.istore_n 2, 2, 0, .null, [], [])), (2, (.iload_n 2, 3, 0, .null, [], [])), (3, (.iload_n 1, 4, 0, .null, [], [])), (4, (.aload_n 0, 5, 0, .null, [], [])), (5, (.getfield 52, 8, 0, .null, [], [(10, 22)])), (8, (.iload_n 1, 9, 0, .null, [], [])), (9, (.iaload, 10, 0, .null, [], [])), (10, (.iadd, 11, 0, .null, [], [])), (11, (.if_icmp .ge 44, 14, 55, .null, [], [])), (14, (.aload_n 0, 15, 0, .null, [], [])), (15, (.getfield 40, 18, 0, .null, [], [(10, 17)])), (18, (.iload_n 2, 19, 0, .null, [], [])), (19, (.iaload, 20, 0, .null, [], [])), (20, (.bipush 47, 22, 0, .int (47), [], [])), (22, (.if_icmp .eq 25, 25, 47, .null, [], [])), (25, (.aload_n 0, 26, 0, .null, [], [])), (26, (.getfield 40, 29, 0, .null, [], [(10, 17)])), (29, (.iload_n 2, 30, 0, .null, [], [])), (30, (.iaload, 31, 0, .null, [], [])), (31, (.bipush 108, 33, 0, .int (108), [], [])), (33, (.if_icmp .eq 14, 36, 47, .null, [], [])), (36, (.aload_n 0, 37, 0, .null, [], [])), (37, (.getfield 40, 40, 0, .null, [], [(10, 17)])), (40, (.iload_n 2, 41, 0, .null, [], [])), (41, (.iaload, 42, 0, .null, [], [])), (42, (.bipush 115, 44, 0, .int (115), [], [])), (44, (.if_icmp .ne 5, 47, 49, .null, [], [])), (47, (.iconst 0, 48, 0, .int (0), [], [])), (48, (.ireturn, 49, 0, .null, [], [])), (49, (.iinc 2 1, 52, 0, .int (1), [], [])), (52, (.goto (-50), 55, 2, .null, [], [])), (55, (.iconst 1, 56, 0, .int (1), [], [])), (56, (.ireturn, 57, 0, .null, [], []))]
noncomputable abbrev jX12_isPure : List (Nat × sf_J (Int32 × sf_S)) := []
abbrev wX12_isPure_2 {ρ : Type} (k : Int32 → Int32 → sf_S → Option ρ) : sf_M ρ := fun L st σ => sf_lda L 0 fun a0 => sf_eq a0 0 (sf_ldi L 1 fun x1 => sf_ldi L 2 fun x2 => sf_nil st (k x1 x2 σ))
theorem wX12_isPure_2_ok {ρ : Type} {Wt : Nat → sf_L → List Value → sf_S → Prop} {Post : ρ → Prop} (hm : sf_mono Wt) {k : Int32 → Int32 → sf_S → Option ρ} (h : ∀ (x1 : Int32) (x2 : Int32) (σ : sf_S) (u : ρ), k x1 x2 σ = some u → Post u → Wt 2 [(0, some (.ref 0)), (1, some (.int x1)), (2, some (.int x2))] [] σ) : sf_CK Wt Post 2 (wX12_isPure_2 k) := by
  intro L st σ u hf hp
  unfold wX12_isPure_2 at hf
  have hf0 := hf
  obtain ⟨a0, e0, hf1⟩ := sf_lda_inv hf0
  obtain ⟨rfl, hf2⟩ := sf_eq_inv hf1
  obtain ⟨x1, e1, hf3⟩ := sf_ldi_inv hf2
  obtain ⟨x2, e2, hf4⟩ := sf_ldi_inv hf3
  obtain ⟨rfl, hz⟩ := sf_nil_inv hf4
  exact hm _ [(0, some (.ref _)), (1, some (.int x1)), (2, some (.int x2))] _ _ _ (sf_le_ok (And.intro e0 (And.intro e1 (And.intro e2 trivial)))) (h _ _ _ _ hz hp)
noncomputable def dX12_isPure_2 : Nat → Int32 → Int32 → sf_S → Option (Int32 × sf_S)
  | 0 => fun _ _ _ => none
  | n + 1 => fun x1 x2 σ =>
    if sf_in x1 40 then
      if (x1 + (σ 15 x1.toNatClampNeg)) ≤ x2 then
        some ((1 : Int32), σ)
      else
        if sf_in x2 40 then
          if (σ 11 x2.toNatClampNeg) = (47 : Int32) then
            some ((0 : Int32), σ)
          else
            if sf_in x2 40 then
              if (σ 11 x2.toNatClampNeg) = (108 : Int32) then
                some ((0 : Int32), σ)
              else
                if sf_in x2 40 then
                  if ¬ (σ 11 x2.toNatClampNeg) = (115 : Int32) then
                    dX12_isPure_2 n x1 (x2 + (1 : Int32)) σ
                  else
                    some ((0 : Int32), σ)
                else
                  none
            else
              none
        else
          none
    else
      none
set_option maxRecDepth 100000 in
set_option maxHeartbeats 4000000 in
theorem rX12_isPure_2 {Wt : Nat → sf_L → List Value → sf_S → Prop} {Post : (Int32 × sf_S) → Prop} (hs : sf_Snd Wt sf_layM sf_hZ jX12_isPure tX12_isPure Post) (hm : sf_mono Wt) : ∀ n : Nat, sf_CK Wt Post 2 (wX12_isPure_2 (dX12_isPure_2 n)) := by
  intro n
  induction n with
  | zero => exact wX12_isPure_2_ok hm (fun x1 x2 σ u h _ => by simp [dX12_isPure_2] at h)
  | succ n ih =>
    refine wX12_isPure_2_ok hm ?_
    intro x1 x2 σ u h hp
    exact sf_run_ok hs (sf_sm_cons ih sf_sm_nil) 39 2 _ _ σ u h hp
noncomputable def dX12_isPure (x1 : Int32) (σ : sf_S) : Option (Int32 × sf_S) :=
  dX12_isPure_2 sf_F x1 x1 σ
noncomputable abbrev gX12_isPure (av : List Value) (σ : sf_S) : Option (Int32 × sf_S) := match av with
  | [.ref q, .int x1] => (match sf_rv [0] q with | true => dX12_isPure x1 σ | false => none)
  | _ => none
set_option maxRecDepth 100000 in
set_option maxHeartbeats 4000000 in
theorem rX12_isPure {Wt : Nat → sf_L → List Value → sf_S → Prop} {Post : (Int32 × sf_S) → Prop} (hs : sf_Snd Wt sf_layM sf_hZ jX12_isPure tX12_isPure Post) (hm : sf_mono Wt) : ∀ av σ u, gX12_isPure av σ = some u → Post u → (∀ ad, (lg_sl (av.map (sf_v ad))).length ≤ 3) ∧ Wt 0 (sf_ent 0 av) [] σ := by
  intro av σ u h hp
  unfold gX12_isPure at h
  split at h
  · rename_i q x1
    split at h
    · rename_i hq
      have hq : q = 0 := by simpa using sf_rv_mem hq
      subst hq
      refine ⟨fun ad => Nat.le_of_ble_eq_true rfl, ?_⟩
      exact sf_run_ok hs (sf_sm_cons (rX12_isPure_2 hs hm sf_F) sf_sm_nil) 39 0 _ _ σ u h hp
    · cases h
  · cases h
theorem kX12_isPure (l : Launch) : sf_C l sf_layM yX12_isPure cX12_isPure 3 (some .boolean) (sf_rm 1 100) (fun av σ => (gX12_isPure av σ).map sf_vI) :=
  sf_met (tab := tX12_isPure) (J := jX12_isPure) (fl := sf_fl12) (cl := sf_cl12) (by decide +kernel) ⟨rfl, rfl⟩ sf_RH_Z (by decide +kernel) sf_fl12_ok sf_cl12_ok
    (sf_JO_nil)
    (fun Wt Post hs hm => rX12_isPure hs hm)
-- ===== StreamFuserModel.nodeBy(II)I =====
abbrev tX12_nodeBy : List (Nat × sf_E) := [(0, (.iload_n 2, 1, 0, .null, [], [])), (1, (.tableswitch 70 0 4 #[35, 42, 49, 56, 63], 36, 71, .null, [((0), 36), ((1), 43), ((2), 50), ((3), 57), ((4), 64)], [])), (36, (.aload_n 0, 37, 0, .null, [], [])), (37, (.getfield 40, 40, 0, .null, [], [(10, 17)])), (40, (.iload_n 1, 41, 0, .null, [], [])), (41, (.iaload, 42, 0, .null, [], [])), (42, (.ireturn, 43, 0, .null, [], [])), (43, (.aload_n 0, 44, 0, .null, [], [])), (44, (.getfield 43, 47, 0, .null, [], [(10, 18)])), (47, (.iload_n 1, 48, 0, .null, [], [])), (48, (.iaload, 49, 0, .null, [], [])), (49, (.ireturn, 50, 0, .null, [], [])), (50, (.aload_n 0, 51, 0, .null, [], [])), (51, (.getfield 46, 54, 0, .null, [], [(10, 19)])), (54, (.iload_n 1, 55, 0, .null, [], [])), (55, (.iaload, 56, 0, .null, [], [])), (56, (.ireturn, 57, 0, .null, [], [])), (57, (.aload_n 0, 58, 0, .null, [], [])), (58, (.getfield 49, 61, 0, .null, [], [(10, 20)])), (61, (.iload_n 1, 62, 0, .null, [], [])), (62, (.iaload, 63, 0, .null, [], [])), (63, (.ireturn, 64, 0, .null, [], [])), (64, (.aload_n 0, 65, 0, .null, [], [])), (65, (.getfield 61, 68, 0, .null, [], [(10, 25)])), (68, (.iload_n 1, 69, 0, .null, [], [])), (69, (.iaload, 70, 0, .null, [], [])), (70, (.ireturn, 71, 0, .null, [], [])), (71, (.aload_n 0, 72, 0, .null, [], [])), (72, (.iload_n 1, 73, 0, .null, [], [])), (73, (.invokevirtual 216, 76, 0, .null, [], [])), (76, (.ifCond .eq 7, 79, 83, .null, [], [])), (79, (.iconst 1, 80, 0, .int (1), [], [])), (80, (.goto 4, 83, 84, .null, [], [])), (83, (.iconst 0, 84, 0, .int (0), [], [])), (84, (.ireturn, 85, 0, .null, [], []))]
noncomputable abbrev jX12_nodeBy : List (Nat × sf_J (Int32 × sf_S)) := [(73, sf_jI sf_layM [10] 2 gX12_isPure)]
noncomputable def dX12_nodeBy (x1 : Int32) (x2 : Int32) (σ : sf_S) : Option (Int32 × sf_S) :=
  if x2 = (0 : Int32) then
    if sf_in x1 40 then
      some ((σ 11 x1.toNatClampNeg), σ)
    else
      none
  else
  if x2 = (1 : Int32) then
    if sf_in x1 40 then
      some ((σ 12 x1.toNatClampNeg), σ)
    else
      none
  else
  if x2 = (2 : Int32) then
    if sf_in x1 40 then
      some ((σ 13 x1.toNatClampNeg), σ)
    else
      none
  else
  if x2 = (3 : Int32) then
    if sf_in x1 40 then
      some ((σ 14 x1.toNatClampNeg), σ)
    else
      none
  else
  if x2 = (4 : Int32) then
    if sf_in x1 40 then
      some ((σ 18 x1.toNatClampNeg), σ)
    else
      none
  else
    (dX12_isPure x1 σ).bind fun u1 =>
    if u1.1 = 0 then
      some ((0 : Int32), u1.2)
    else
      some ((1 : Int32), u1.2)
noncomputable abbrev gX12_nodeBy (av : List Value) (σ : sf_S) : Option (Int32 × sf_S) := match av with
  | [.ref q, .int x1, .int x2] => (match sf_rv [0] q with | true => dX12_nodeBy x1 x2 σ | false => none)
  | _ => none
set_option maxRecDepth 100000 in
set_option maxHeartbeats 4000000 in
theorem rX12_nodeBy {Wt : Nat → sf_L → List Value → sf_S → Prop} {Post : (Int32 × sf_S) → Prop} (hs : sf_Snd Wt sf_layM sf_hI jX12_nodeBy tX12_nodeBy Post) (hm : sf_mono Wt) : ∀ av σ u, gX12_nodeBy av σ = some u → Post u → (∀ ad, (lg_sl (av.map (sf_v ad))).length ≤ 3) ∧ Wt 0 (sf_ent 0 av) [] σ := by
  intro av σ u h hp
  unfold gX12_nodeBy at h
  split at h
  · rename_i q x1 x2
    split at h
    · rename_i hq
      have hq : q = 0 := by simpa using sf_rv_mem hq
      subst hq
      refine ⟨fun ad => Nat.le_of_ble_eq_true rfl, ?_⟩
      exact sf_run_ok hs sf_sm_nil 40 0 _ _ σ u h hp
    · cases h
  · cases h
theorem kX12_nodeBy (l : Launch) : sf_C l sf_layM yX12_nodeBy cX12_nodeBy 3 (some .int) (sf_rm 2 122) (fun av σ => (gX12_nodeBy av σ).map sf_vI) :=
  sf_met (tab := tX12_nodeBy) (J := jX12_nodeBy) (fl := sf_fl12) (cl := sf_cl12) (by decide +kernel) ⟨rfl, rfl⟩ sf_RH_I (by decide +kernel) sf_fl12_ok sf_cl12_ok
    (sf_JO_cons (sf_je_V (n := 2) (cs := [10]) (tv := sf_vI) (kX12_isPure l) mwX12_isPure (by decide +kernel : decode cX12_nodeBy 73 = .ok (.invokevirtual 216, 3)) wt_1474 wt_1476 wt_94 (by decide +kernel) (by decide) (by decide) (List.forall_mem_cons.mpr ⟨⟨_, _, rfl⟩, fun _ h => absurd h List.not_mem_nil⟩) (sf_RM_of (by omega) (by omega))) (sf_JO_nil))
    (fun Wt Post hs hm => rX12_nodeBy hs hm)
-- ===== StreamFuserModel.node(II)I =====
abbrev tX12_node : List (Nat × sf_E) := [(0, (.iload_n 1, 1, 0, .null, [], [])), (1, (.i2l, 2, 0, .null, [], [])), (2, (.lconst 0, 3, 0, .long 0, [], [])), (3, (.aload_n 0, 4, 0, .null, [], [])), (4, (.getfield 206, 7, 0, .null, [], [(10, 21)])), (7, (.iconst 1, 8, 0, .int (1), [], [])), (8, (.isub, 9, 0, .null, [], [])), (9, (.i2l, 10, 0, .null, [], [])), (10, (.invokestatic 132, 13, 0, .null, [], [])), (13, (.ifCond .eq 24, 16, 37, .null, [], [])), (16, (.iload_n 2, 17, 0, .null, [], [])), (17, (.i2l, 18, 0, .null, [], [])), (18, (.lconst 0, 19, 0, .long 0, [], [])), (19, (.ldc2_w 219, 22, 0, .long (5), [], [])), (22, (.invokestatic 132, 25, 0, .null, [], [])), (25, (.ifCond .eq 12, 28, 37, .null, [], [])), (28, (.aload_n 0, 29, 0, .null, [], [])), (29, (.iload_n 1, 30, 0, .null, [], [])), (30, (.iload_n 2, 31, 0, .null, [], [])), (31, (.invokevirtual 221, 34, 0, .null, [], [])), (34, (.goto 5, 37, 39, .null, [], [])), (37, (.ldc 154, 39, 0, .int (-2147483648), [], [])), (39, (.ireturn, 40, 0, .null, [], []))]
noncomputable abbrev jX12_node : List (Nat × sf_J (Int32 × sf_S)) := [(10, sf_jI sf_layM [] 3 gX12_in), (22, sf_jI sf_layM [] 3 gX12_in), (31, sf_jI sf_layM [10] 3 gX12_nodeBy)]
noncomputable def dX12_node (x1 : Int32) (x2 : Int32) (σ : sf_S) : Option (Int32 × sf_S) :=
  (dX12_in x1.toInt64 (0 : Int64) (((σ 0 21) - (1 : Int32))).toInt64 σ).bind fun u1 =>
  if u1.1 = 0 then
    some ((-2147483648 : Int32), u1.2)
  else
    (dX12_in x2.toInt64 (0 : Int64) (5 : Int64) u1.2).bind fun u2 =>
    if u2.1 = 0 then
      some ((-2147483648 : Int32), u2.2)
    else
      (dX12_nodeBy x1 x2 u2.2).bind fun u3 =>
      some (u3.1, u3.2)
noncomputable abbrev gX12_node (av : List Value) (σ : sf_S) : Option (Int32 × sf_S) := match av with
  | [.ref q, .int x1, .int x2] => (match sf_rv [0] q with | true => dX12_node x1 x2 σ | false => none)
  | _ => none
set_option maxRecDepth 100000 in
set_option maxHeartbeats 4000000 in
theorem rX12_node {Wt : Nat → sf_L → List Value → sf_S → Prop} {Post : (Int32 × sf_S) → Prop} (hs : sf_Snd Wt sf_layM sf_hI jX12_node tX12_node Post) (hm : sf_mono Wt) : ∀ av σ u, gX12_node av σ = some u → Post u → (∀ ad, (lg_sl (av.map (sf_v ad))).length ≤ 3) ∧ Wt 0 (sf_ent 0 av) [] σ := by
  intro av σ u h hp
  unfold gX12_node at h
  split at h
  · rename_i q x1 x2
    split at h
    · rename_i hq
      have hq : q = 0 := by simpa using sf_rv_mem hq
      subst hq
      refine ⟨fun ad => Nat.le_of_ble_eq_true rfl, ?_⟩
      exact sf_run_ok hs sf_sm_nil 28 0 _ _ σ u h hp
    · cases h
  · cases h
theorem kX12_node (l : Launch) : sf_C l sf_layM yX12_node cX12_node 3 (some .int) (sf_rm 3 144) (fun av σ => (gX12_node av σ).map sf_vI) :=
  sf_met (tab := tX12_node) (J := jX12_node) (fl := sf_fl12) (cl := sf_cl12) (by decide +kernel) ⟨rfl, rfl⟩ sf_RH_I (by decide +kernel) sf_fl12_ok sf_cl12_ok
    (sf_JO_cons (sf_je_S (n := 3) (tv := sf_vI) (kX12_in l) mwX12_in (by decide +kernel : decode cX12_node 10 = .ok (.invokestatic 132, 3)) wt_1378 wt_1379 (by decide +kernel) (sf_RM_of (by omega) (by omega))) (sf_JO_cons (sf_je_S (n := 3) (tv := sf_vI) (kX12_in l) mwX12_in (by decide +kernel : decode cX12_node 22 = .ok (.invokestatic 132, 3)) wt_1378 wt_1379 (by decide +kernel) (sf_RM_of (by omega) (by omega))) (sf_JO_cons (sf_je_V (n := 3) (cs := [10]) (tv := sf_vI) (kX12_nodeBy l) mwX12_nodeBy (by decide +kernel : decode cX12_node 31 = .ok (.invokevirtual 221, 3)) wt_1470 wt_1472 wt_93 (by decide +kernel) (by decide) (by decide) (List.forall_mem_cons.mpr ⟨⟨_, _, rfl⟩, fun _ h => absurd h List.not_mem_nil⟩) (sf_RM_of (by omega) (by omega))) (sf_JO_nil))))
    (fun Wt Post hs hm => rX12_node hs hm)
-- ===== StreamFuserModel.tells(I)V =====
abbrev tX12_tells : List (Nat × sf_E) := [(0, (.aload_n 0, 1, 0, .null, [], [])), (1, (.getfield 70, 4, 0, .null, [], [(10, 28)])), (4, (.aload_n 0, 5, 0, .null, [], [])), (5, (.getfield 224, 8, 0, .null, [], [(10, 29)])), (8, (.iload_n 1, 9, 0, .null, [], [])), (9, (.iastore, 10, 0, .null, [], [])), (10, (.aload_n 0, 11, 0, .null, [], [])), (11, (.dup, 12, 0, .null, [], [])), (12, (.getfield 224, 15, 0, .null, [], [(10, 29)])), (15, (.iconst 1, 16, 0, .int (1), [], [])), (16, (.iadd, 17, 0, .null, [], [])), (17, (.putfield 224, 20, 0, .null, [], [(10, 29)])), (20, (.return_, 21, 0, .null, [], []))]
noncomputable abbrev jX12_tells : List (Nat × sf_J sf_S) := []
noncomputable def dX12_tells (x1 : Int32) (σ : sf_S) : Option sf_S :=
  let v1 := (σ 0 29)
  if sf_in v1 1200 then
    let s2 := sf_up σ 21 v1.toNatClampNeg x1
    let s3 := sf_up s2 0 29 ((s2 0 29) + (1 : Int32))
    some s3
  else
    none
noncomputable abbrev gX12_tells (av : List Value) (σ : sf_S) : Option sf_S := match av with
  | [.ref q, .int x1] => (match sf_rv [0] q with | true => dX12_tells x1 σ | false => none)
  | _ => none
set_option maxRecDepth 100000 in
set_option maxHeartbeats 4000000 in
theorem rX12_tells {Wt : Nat → sf_L → List Value → sf_S → Prop} {Post : sf_S → Prop} (hs : sf_Snd Wt sf_layM sf_hV jX12_tells tX12_tells Post) (hm : sf_mono Wt) : ∀ av σ u, gX12_tells av σ = some u → Post u → (∀ ad, (lg_sl (av.map (sf_v ad))).length ≤ 2) ∧ Wt 0 (sf_ent 0 av) [] σ := by
  intro av σ u h hp
  unfold gX12_tells at h
  split at h
  · rename_i q x1
    split at h
    · rename_i hq
      have hq : q = 0 := by simpa using sf_rv_mem hq
      subst hq
      refine ⟨fun ad => Nat.le_of_ble_eq_true rfl, ?_⟩
      exact sf_run_ok hs sf_sm_nil 18 0 _ _ σ u h hp
    · cases h
  · cases h
theorem kX12_tells (l : Launch) : sf_C l sf_layM yX12_tells cX12_tells 2 none (sf_rm 1 100) (fun av σ => (gX12_tells av σ).map sf_vV) :=
  sf_met (tab := tX12_tells) (J := jX12_tells) (fl := sf_fl12) (cl := sf_cl12) (by decide +kernel) ⟨rfl, rfl⟩ sf_RH_V (by decide +kernel) sf_fl12_ok sf_cl12_ok
    (sf_JO_nil)
    (fun Wt Post hs hm => rX12_tells hs hm)
-- ===== StreamFuserModel.tellsNumber(I)V =====
abbrev tX12_tellsNumber : List (Nat × sf_E) := [(0, (.iload_n 1, 1, 0, .null, [], [])), (1, (.i2l, 2, 0, .null, [], [])), (2, (.lstore_n 2, 3, 0, .null, [], [])), (3, (.iload_n 1, 4, 0, .null, [], [])), (4, (.ifCond .ge 13, 7, 17, .null, [], [])), (7, (.aload_n 0, 8, 0, .null, [], [])), (8, (.bipush 45, 10, 0, .int (45), [], [])), (10, (.invokevirtual 227, 13, 0, .null, [], [])), (13, (.lconst 0, 14, 0, .long 0, [], [])), (14, (.lload_n 2, 15, 0, .null, [], [])), (15, (.lsub, 16, 0, .null, [], [])), (16, (.lstore_n 2, 17, 0, .null, [], [])), (17, (.lconst 1, 18, 0, .long 1, [], [])), (18, (.lstore 4, 20, 0, .null, [], [])), (20, (.iconst 0, 21, 0, .int (0), [], [])), (21, (.istore 6, 23, 0, .null, [], [])), (23, (.iload 6, 25, 0, .null, [], [])), (25, (.bipush 10, 27, 0, .int (10), [], [])), (27, (.if_icmp .ge 28, 30, 55, .null, [], [])), (30, (.lload 4, 32, 0, .null, [], [])), (32, (.ldc2_w 230, 35, 0, .long (10), [], [])), (35, (.lmul, 36, 0, .null, [], [])), (36, (.lload_n 2, 37, 0, .null, [], [])), (37, (.lcmp, 38, 0, .null, [], [])), (38, (.ifCond .gt 17, 41, 55, .null, [], [])), (41, (.lload 4, 43, 0, .null, [], [])), (43, (.ldc2_w 230, 46, 0, .long (10), [], [])), (46, (.lmul, 47, 0, .null, [], [])), (47, (.lstore 4, 49, 0, .null, [], [])), (49, (.iinc 6 1, 52, 0, .int (1), [], [])), (52, (.goto (-29), 55, 23, .null, [], [])), (55, (.iconst 0, 56, 0, .int (0), [], [])), (56, (.istore 6, 58, 0, .null, [], [])), (58, (.iload 6, 60, 0, .null, [], [])), (60, (.bipush 11, 62, 0, .int (11), [], [])), (62, (.if_icmp .ge 41, 65, 103, .null, [], [])), (65, (.lload 4, 67, 0, .null, [], [])), (67, (.lconst 0, 68, 0, .long 0, [], [])), (68, (.lcmp, 69, 0, .null, [], [])), (69, (.ifCond .le 34, 72, 103, .null, [], [])), (72, (.aload_n 0, 73, 0, .null, [], [])), (73, (.bipush 48, 75, 0, .int (48), [], [])), (75, (.lload_n 2, 76, 0, .null, [], [])), (76, (.lload 4, 78, 0, .null, [], [])), (78, (.ldiv, 79, 0, .null, [], [])), (79, (.l2i, 80, 0, .null, [], [])), (80, (.iadd, 81, 0, .null, [], [])), (81, (.invokevirtual 227, 84, 0, .null, [], [])), (84, (.lload_n 2, 85, 0, .null, [], [])), (85, (.lload 4, 87, 0, .null, [], [])), (87, (.lrem, 88, 0, .null, [], [])), (88, (.lstore_n 2, 89, 0, .null, [], [])), (89, (.lload 4, 91, 0, .null, [], [])), (91, (.ldc2_w 230, 94, 0, .long (10), [], [])), (94, (.ldiv, 95, 0, .null, [], [])), (95, (.lstore 4, 97, 0, .null, [], [])), (97, (.iinc 6 1, 100, 0, .int (1), [], [])), (100, (.goto (-42), 103, 58, .null, [], [])), (103, (.aload_n 0, 104, 0, .null, [], [])), (104, (.bipush 59, 106, 0, .int (59), [], [])), (106, (.invokevirtual 227, 109, 0, .null, [], [])), (109, (.return_, 110, 0, .null, [], []))]
noncomputable abbrev jX12_tellsNumber : List (Nat × sf_J sf_S) := [(10, sf_jV sf_layM [10] 2 gX12_tells), (81, sf_jV sf_layM [10] 2 gX12_tells), (106, sf_jV sf_layM [10] 2 gX12_tells)]
abbrev wX12_tellsNumber_58 {ρ : Type} (k : Int64 → Int64 → Int32 → sf_S → Option ρ) : sf_M ρ := fun L st σ => sf_lda L 0 fun a0 => sf_eq a0 0 (sf_ldl L 2 fun x2 => sf_ldl L 4 fun x4 => sf_ldi L 6 fun x6 => sf_nil st (k x2 x4 x6 σ))
theorem wX12_tellsNumber_58_ok {ρ : Type} {Wt : Nat → sf_L → List Value → sf_S → Prop} {Post : ρ → Prop} (hm : sf_mono Wt) {k : Int64 → Int64 → Int32 → sf_S → Option ρ} (h : ∀ (x2 : Int64) (x4 : Int64) (x6 : Int32) (σ : sf_S) (u : ρ), k x2 x4 x6 σ = some u → Post u → Wt 58 [(0, some (.ref 0)), (2, some (.long x2)), (4, some (.long x4)), (6, some (.int x6))] [] σ) : sf_CK Wt Post 58 (wX12_tellsNumber_58 k) := by
  intro L st σ u hf hp
  unfold wX12_tellsNumber_58 at hf
  have hf0 := hf
  obtain ⟨a0, e0, hf1⟩ := sf_lda_inv hf0
  obtain ⟨rfl, hf2⟩ := sf_eq_inv hf1
  obtain ⟨x2, e2, hf3⟩ := sf_ldl_inv hf2
  obtain ⟨x4, e4, hf4⟩ := sf_ldl_inv hf3
  obtain ⟨x6, e6, hf5⟩ := sf_ldi_inv hf4
  obtain ⟨rfl, hz⟩ := sf_nil_inv hf5
  exact hm _ [(0, some (.ref _)), (2, some (.long x2)), (4, some (.long x4)), (6, some (.int x6))] _ _ _ (sf_le_ok (And.intro e0 (And.intro e2 (And.intro e4 (And.intro e6 trivial))))) (h _ _ _ _ _ hz hp)
abbrev wX12_tellsNumber_23 {ρ : Type} (k : Int64 → Int64 → Int32 → sf_S → Option ρ) : sf_M ρ := fun L st σ => sf_lda L 0 fun a0 => sf_eq a0 0 (sf_ldl L 2 fun x2 => sf_ldl L 4 fun x4 => sf_ldi L 6 fun x6 => sf_nil st (k x2 x4 x6 σ))
theorem wX12_tellsNumber_23_ok {ρ : Type} {Wt : Nat → sf_L → List Value → sf_S → Prop} {Post : ρ → Prop} (hm : sf_mono Wt) {k : Int64 → Int64 → Int32 → sf_S → Option ρ} (h : ∀ (x2 : Int64) (x4 : Int64) (x6 : Int32) (σ : sf_S) (u : ρ), k x2 x4 x6 σ = some u → Post u → Wt 23 [(0, some (.ref 0)), (2, some (.long x2)), (4, some (.long x4)), (6, some (.int x6))] [] σ) : sf_CK Wt Post 23 (wX12_tellsNumber_23 k) := by
  intro L st σ u hf hp
  unfold wX12_tellsNumber_23 at hf
  have hf0 := hf
  obtain ⟨a0, e0, hf1⟩ := sf_lda_inv hf0
  obtain ⟨rfl, hf2⟩ := sf_eq_inv hf1
  obtain ⟨x2, e2, hf3⟩ := sf_ldl_inv hf2
  obtain ⟨x4, e4, hf4⟩ := sf_ldl_inv hf3
  obtain ⟨x6, e6, hf5⟩ := sf_ldi_inv hf4
  obtain ⟨rfl, hz⟩ := sf_nil_inv hf5
  exact hm _ [(0, some (.ref _)), (2, some (.long x2)), (4, some (.long x4)), (6, some (.int x6))] _ _ _ (sf_le_ok (And.intro e0 (And.intro e2 (And.intro e4 (And.intro e6 trivial))))) (h _ _ _ _ _ hz hp)
noncomputable def dX12_tellsNumber_58 : Nat → Int64 → Int64 → Int32 → sf_S → Option sf_S
  | 0 => fun _ _ _ _ => none
  | n + 1 => fun x2 x4 x6 σ =>
    if (11 : Int32) ≤ x6 then
      (dX12_tells (59 : Int32) σ).bind fun u1 =>
      some u1
    else
      if (lg_cmp x4 (0 : Int64)) ≤ 0 then
        (dX12_tells (59 : Int32) σ).bind fun u2 =>
        some u2
      else
        if x4 = 0 then
          none
        else
          (dX12_tells ((48 : Int32) + ((x2 / x4)).toInt32) σ).bind fun u3 =>
          if x4 = 0 then
            none
          else
            let v4 := (x2 - x2 / x4 * x4)
            if (10 : Int64) = 0 then
              none
            else
              let v5 := (x4 / (10 : Int64))
              dX12_tellsNumber_58 n v4 v5 (x6 + (1 : Int32)) u3
set_option maxRecDepth 100000 in
set_option maxHeartbeats 4000000 in
theorem rX12_tellsNumber_58 {Wt : Nat → sf_L → List Value → sf_S → Prop} {Post : sf_S → Prop} (hs : sf_Snd Wt sf_layM sf_hV jX12_tellsNumber tX12_tellsNumber Post) (hm : sf_mono Wt) : ∀ n : Nat, sf_CK Wt Post 58 (wX12_tellsNumber_58 (dX12_tellsNumber_58 n)) := by
  intro n
  induction n with
  | zero => exact wX12_tellsNumber_58_ok hm (fun x2 x4 x6 σ u h _ => by simp [dX12_tellsNumber_58] at h)
  | succ n ih =>
    refine wX12_tellsNumber_58_ok hm ?_
    intro x2 x4 x6 σ u h hp
    exact sf_run_ok hs (sf_sm_cons ih sf_sm_nil) 67 58 _ _ σ u h hp
noncomputable def dX12_tellsNumber_23 : Nat → Int64 → Int64 → Int32 → sf_S → Option sf_S
  | 0 => fun _ _ _ _ => none
  | n + 1 => fun x2 x4 x6 σ =>
    if (10 : Int32) ≤ x6 then
      dX12_tellsNumber_58 sf_F x2 x4 (0 : Int32) σ
    else
      if 0 < (lg_cmp (x4 * (10 : Int64)) x2) then
        dX12_tellsNumber_58 sf_F x2 x4 (0 : Int32) σ
      else
        let v1 := (x4 * (10 : Int64))
        dX12_tellsNumber_23 n x2 v1 (x6 + (1 : Int32)) σ
set_option maxRecDepth 100000 in
set_option maxHeartbeats 4000000 in
theorem rX12_tellsNumber_23 {Wt : Nat → sf_L → List Value → sf_S → Prop} {Post : sf_S → Prop} (hs : sf_Snd Wt sf_layM sf_hV jX12_tellsNumber tX12_tellsNumber Post) (hm : sf_mono Wt) : ∀ n : Nat, sf_CK Wt Post 23 (wX12_tellsNumber_23 (dX12_tellsNumber_23 n)) := by
  intro n
  induction n with
  | zero => exact wX12_tellsNumber_23_ok hm (fun x2 x4 x6 σ u h _ => by simp [dX12_tellsNumber_23] at h)
  | succ n ih =>
    refine wX12_tellsNumber_23_ok hm ?_
    intro x2 x4 x6 σ u h hp
    exact sf_run_ok hs (sf_sm_cons ih (sf_sm_cons (rX12_tellsNumber_58 hs hm sf_F) sf_sm_nil)) 67 23 _ _ σ u h hp
noncomputable def dX12_tellsNumber (x1 : Int32) (σ : sf_S) : Option sf_S :=
  if 0 ≤ x1 then
    dX12_tellsNumber_23 sf_F x1.toInt64 (1 : Int64) (0 : Int32) σ
  else
    (dX12_tells (45 : Int32) σ).bind fun u1 =>
    let v2 := ((0 : Int64) - x1.toInt64)
    dX12_tellsNumber_23 sf_F v2 (1 : Int64) (0 : Int32) u1
noncomputable abbrev gX12_tellsNumber (av : List Value) (σ : sf_S) : Option sf_S := match av with
  | [.ref q, .int x1] => (match sf_rv [0] q with | true => dX12_tellsNumber x1 σ | false => none)
  | _ => none
set_option maxRecDepth 100000 in
set_option maxHeartbeats 4000000 in
theorem rX12_tellsNumber {Wt : Nat → sf_L → List Value → sf_S → Prop} {Post : sf_S → Prop} (hs : sf_Snd Wt sf_layM sf_hV jX12_tellsNumber tX12_tellsNumber Post) (hm : sf_mono Wt) : ∀ av σ u, gX12_tellsNumber av σ = some u → Post u → (∀ ad, (lg_sl (av.map (sf_v ad))).length ≤ 7) ∧ Wt 0 (sf_ent 0 av) [] σ := by
  intro av σ u h hp
  unfold gX12_tellsNumber at h
  split at h
  · rename_i q x1
    split at h
    · rename_i hq
      have hq : q = 0 := by simpa using sf_rv_mem hq
      subst hq
      refine ⟨fun ad => Nat.le_of_ble_eq_true rfl, ?_⟩
      exact sf_run_ok hs (sf_sm_cons (rX12_tellsNumber_23 hs hm sf_F) sf_sm_nil) 67 0 _ _ σ u h hp
    · cases h
  · cases h
theorem kX12_tellsNumber (l : Launch) : sf_C l sf_layM yX12_tellsNumber cX12_tellsNumber 7 none (sf_rm 2 121) (fun av σ => (gX12_tellsNumber av σ).map sf_vV) :=
  sf_met (tab := tX12_tellsNumber) (J := jX12_tellsNumber) (fl := sf_fl12) (cl := sf_cl12) (by decide +kernel) ⟨rfl, rfl⟩ sf_RH_V (by decide +kernel) sf_fl12_ok sf_cl12_ok
    (sf_JO_cons (sf_je_V (n := 2) (cs := [10]) (tv := sf_vV) (kX12_tells l) mwX12_tells (by decide +kernel : decode cX12_tellsNumber 10 = .ok (.invokevirtual 227, 3)) wt_1486 wt_1488 wt_96 (by decide +kernel) (by decide) (by decide) (List.forall_mem_cons.mpr ⟨⟨_, _, rfl⟩, fun _ h => absurd h List.not_mem_nil⟩) (sf_RM_of (by omega) (by omega))) (sf_JO_cons (sf_je_V (n := 2) (cs := [10]) (tv := sf_vV) (kX12_tells l) mwX12_tells (by decide +kernel : decode cX12_tellsNumber 81 = .ok (.invokevirtual 227, 3)) wt_1486 wt_1488 wt_96 (by decide +kernel) (by decide) (by decide) (List.forall_mem_cons.mpr ⟨⟨_, _, rfl⟩, fun _ h => absurd h List.not_mem_nil⟩) (sf_RM_of (by omega) (by omega))) (sf_JO_cons (sf_je_V (n := 2) (cs := [10]) (tv := sf_vV) (kX12_tells l) mwX12_tells (by decide +kernel : decode cX12_tellsNumber 106 = .ok (.invokevirtual 227, 3)) wt_1486 wt_1488 wt_96 (by decide +kernel) (by decide) (by decide) (List.forall_mem_cons.mpr ⟨⟨_, _, rfl⟩, fun _ h => absurd h List.not_mem_nil⟩) (sf_RM_of (by omega) (by omega))) (sf_JO_nil))))
    (fun Wt Post hs hm => rX12_tellsNumber hs hm)
-- ===== StreamFuserModel.numbersOf(I)I =====
abbrev tX12_numbersOf : List (Nat × sf_E) := [(0, (.iload_n 0, 1, 0, .null, [], [])), (1, (.bipush 114, 3, 0, .int (114), [], [])), (3, (.if_icmp .eq 9, 6, 12, .null, [], [])), (6, (.iload_n 0, 7, 0, .null, [], [])), (7, (.bipush 105, 9, 0, .int (105), [], [])), (9, (.if_icmp .ne 7, 12, 16, .null, [], [])), (12, (.iconst 2, 13, 0, .int (2), [], [])), (13, (.goto 22, 16, 35, .null, [], [])), (16, (.iload_n 0, 17, 0, .null, [], [])), (17, (.invokestatic 163, 20, 0, .null, [], [])), (20, (.iconst 1, 21, 0, .int (1), [], [])), (21, (.if_icmp .ne 13, 24, 34, .null, [], [])), (24, (.iload_n 0, 25, 0, .null, [], [])), (25, (.bipush 108, 27, 0, .int (108), [], [])), (27, (.if_icmp .eq 7, 30, 34, .null, [], [])), (30, (.iconst 1, 31, 0, .int (1), [], [])), (31, (.goto 4, 34, 35, .null, [], [])), (34, (.iconst 0, 35, 0, .int (0), [], [])), (35, (.ireturn, 36, 0, .null, [], []))]
noncomputable abbrev jX12_numbersOf : List (Nat × sf_J (Int32 × sf_S)) := [(17, sf_jI sf_layM [] 1 gX12_partsOf)]
noncomputable def dX12_numbersOf (x0 : Int32) (σ : sf_S) : Option (Int32 × sf_S) :=
  if x0 = (114 : Int32) then
    some ((2 : Int32), σ)
  else
    if ¬ x0 = (105 : Int32) then
      (dX12_partsOf x0 σ).bind fun u1 =>
      if ¬ u1.1 = (1 : Int32) then
        some ((0 : Int32), u1.2)
      else
        if x0 = (108 : Int32) then
          some ((0 : Int32), u1.2)
        else
          some ((1 : Int32), u1.2)
    else
      some ((2 : Int32), σ)
noncomputable abbrev gX12_numbersOf (av : List Value) (σ : sf_S) : Option (Int32 × sf_S) := match av with
  | [.int x0] => dX12_numbersOf x0 σ
  | _ => none
set_option maxRecDepth 100000 in
set_option maxHeartbeats 4000000 in
theorem rX12_numbersOf {Wt : Nat → sf_L → List Value → sf_S → Prop} {Post : (Int32 × sf_S) → Prop} (hs : sf_Snd Wt sf_layM sf_hI jX12_numbersOf tX12_numbersOf Post) (hm : sf_mono Wt) : ∀ av σ u, gX12_numbersOf av σ = some u → Post u → (∀ ad, (lg_sl (av.map (sf_v ad))).length ≤ 1) ∧ Wt 0 (sf_ent 0 av) [] σ := by
  intro av σ u h hp
  unfold gX12_numbersOf at h
  split at h
  · rename_i x0
    refine ⟨fun ad => Nat.le_of_ble_eq_true rfl, ?_⟩
    exact sf_run_ok hs sf_sm_nil 24 0 _ _ σ u h hp
  · cases h
theorem kX12_numbersOf (l : Launch) : sf_C l sf_layM yX12_numbersOf cX12_numbersOf 1 (some .int) (sf_rm 2 120) (fun av σ => (gX12_numbersOf av σ).map sf_vI) :=
  sf_met (tab := tX12_numbersOf) (J := jX12_numbersOf) (fl := sf_fl12) (cl := sf_cl12) (by decide +kernel) ⟨rfl, rfl⟩ sf_RH_I (by decide +kernel) sf_fl12_ok sf_cl12_ok
    (sf_JO_cons (sf_je_S (n := 1) (tv := sf_vI) (kX12_partsOf l) mwX12_partsOf (by decide +kernel : decode cX12_numbersOf 17 = .ok (.invokestatic 163, 3)) wt_1431 wt_1432 (by decide +kernel) (sf_RM_of (by omega) (by omega))) (sf_JO_nil))
    (fun Wt Post hs hm => rX12_numbersOf hs hm)
-- ===== StreamFuserModel.writesPlan()V =====
abbrev tX12_writesPlan : List (Nat × sf_E) := [(0, (.aload_n 0, 1, 0, .null, [], [])), (1, (.iconst 0, 2, 0, .int (0), [], [])), (2, (.putfield 224, 5, 0, .null, [], [(10, 29)])), (5, (.iconst 0, 6, 0, .int (0), [], [])), (6, (.istore_n 1, 7, 0, .null, [], [])), (7, (.iload_n 1, 8, 0, .null, [], [])), (8, (.aload_n 0, 9, 0, .null, [], [])), (9, (.getfield 206, 12, 0, .null, [], [(10, 21)])), (12, (.if_icmp .ge 118, 15, 130, .null, [], [])), (15, (.aload_n 0, 16, 0, .null, [], [])), (16, (.aload_n 0, 17, 0, .null, [], [])), (17, (.getfield 40, 20, 0, .null, [], [(10, 17)])), (20, (.iload_n 1, 21, 0, .null, [], [])), (21, (.iaload, 22, 0, .null, [], [])), (22, (.invokevirtual 227, 25, 0, .null, [], [])), (25, (.aload_n 0, 26, 0, .null, [], [])), (26, (.getfield 43, 29, 0, .null, [], [(10, 18)])), (29, (.iload_n 1, 30, 0, .null, [], [])), (30, (.iaload, 31, 0, .null, [], [])), (31, (.iconst (-1), 32, 0, .int (-1), [], [])), (32, (.if_icmp .eq 47, 35, 79, .null, [], [])), (35, (.aload_n 0, 36, 0, .null, [], [])), (36, (.aload_n 0, 37, 0, .null, [], [])), (37, (.getfield 40, 40, 0, .null, [], [(10, 17)])), (40, (.iload_n 1, 41, 0, .null, [], [])), (41, (.iaload, 42, 0, .null, [], [])), (42, (.bipush 108, 44, 0, .int (108), [], [])), (44, (.if_icmp .eq 14, 47, 58, .null, [], [])), (47, (.aload_n 0, 48, 0, .null, [], [])), (48, (.getfield 40, 51, 0, .null, [], [(10, 17)])), (51, (.iload_n 1, 52, 0, .null, [], [])), (52, (.iaload, 53, 0, .null, [], [])), (53, (.bipush 115, 55, 0, .int (115), [], [])), (55, (.if_icmp .ne 15, 58, 70, .null, [], [])), (58, (.bipush 48, 60, 0, .int (48), [], [])), (60, (.aload_n 0, 61, 0, .null, [], [])), (61, (.getfield 43, 64, 0, .null, [], [(10, 18)])), (64, (.iload_n 1, 65, 0, .null, [], [])), (65, (.iaload, 66, 0, .null, [], [])), (66, (.iadd, 67, 0, .null, [], [])), (67, (.goto 9, 70, 76, .null, [], [])), (70, (.aload_n 0, 71, 0, .null, [], [])), (71, (.getfield 43, 74, 0, .null, [], [(10, 18)])), (74, (.iload_n 1, 75, 0, .null, [], [])), (75, (.iaload, 76, 0, .null, [], [])), (76, (.invokevirtual 227, 79, 0, .null, [], [])), (79, (.aload_n 0, 80, 0, .null, [], [])), (80, (.getfield 40, 83, 0, .null, [], [(10, 17)])), (83, (.iload_n 1, 84, 0, .null, [], [])), (84, (.iaload, 85, 0, .null, [], [])), (85, (.invokestatic 232, 88, 0, .null, [], [])), (88, (.ifCond .le 13, 91, 101, .null, [], [])), (91, (.aload_n 0, 92, 0, .null, [], [])), (92, (.aload_n 0, 93, 0, .null, [], [])), (93, (.getfield 46, 96, 0, .null, [], [(10, 19)])), (96, (.iload_n 1, 97, 0, .null, [], [])), (97, (.iaload, 98, 0, .null, [], [])), (98, (.invokevirtual 235, 101, 0, .null, [], [])), (101, (.aload_n 0, 102, 0, .null, [], [])), (102, (.getfield 40, 105, 0, .null, [], [(10, 17)])), (105, (.iload_n 1, 106, 0, .null, [], [])), (106, (.iaload, 107, 0, .null, [], [])), (107, (.invokestatic 232, 110, 0, .null, [], [])), (110, (.iconst 1, 111, 0, .int (1), [], [])), (111, (.if_icmp .le 13, 114, 124, .null, [], [])), (114, (.aload_n 0, 115, 0, .null, [], [])), (115, (.aload_n 0, 116, 0, .null, [], [])), (116, (.getfield 49, 119, 0, .null, [], [(10, 20)])), (119, (.iload_n 1, 120, 0, .null, [], [])), (120, (.iaload, 121, 0, .null, [], [])), (121, (.invokevirtual 235, 124, 0, .null, [], [])), (124, (.iinc 1 1, 127, 0, .int (1), [], [])), (127, (.goto (-120), 130, 7, .null, [], [])), (130, (.return_, 131, 0, .null, [], []))]
noncomputable abbrev jX12_writesPlan : List (Nat × sf_J sf_S) := [(22, sf_jV sf_layM [10] 2 gX12_tells), (76, sf_jV sf_layM [10] 2 gX12_tells), (85, sf_jI sf_layM [] 1 gX12_numbersOf), (98, sf_jV sf_layM [10] 2 gX12_tellsNumber), (107, sf_jI sf_layM [] 1 gX12_numbersOf), (121, sf_jV sf_layM [10] 2 gX12_tellsNumber)]
abbrev wX12_writesPlan_101 {ρ : Type} (k : Int32 → sf_S → Option ρ) : sf_M ρ := fun L st σ => sf_lda L 0 fun a0 => sf_eq a0 0 (sf_ldi L 1 fun x1 => sf_nil st (k x1 σ))
theorem wX12_writesPlan_101_ok {ρ : Type} {Wt : Nat → sf_L → List Value → sf_S → Prop} {Post : ρ → Prop} (hm : sf_mono Wt) {k : Int32 → sf_S → Option ρ} (h : ∀ (x1 : Int32) (σ : sf_S) (u : ρ), k x1 σ = some u → Post u → Wt 101 [(0, some (.ref 0)), (1, some (.int x1))] [] σ) : sf_CK Wt Post 101 (wX12_writesPlan_101 k) := by
  intro L st σ u hf hp
  unfold wX12_writesPlan_101 at hf
  have hf0 := hf
  obtain ⟨a0, e0, hf1⟩ := sf_lda_inv hf0
  obtain ⟨rfl, hf2⟩ := sf_eq_inv hf1
  obtain ⟨x1, e1, hf3⟩ := sf_ldi_inv hf2
  obtain ⟨rfl, hz⟩ := sf_nil_inv hf3
  exact hm _ [(0, some (.ref _)), (1, some (.int x1))] _ _ _ (sf_le_ok (And.intro e0 (And.intro e1 trivial))) (h _ _ _ hz hp)
abbrev wX12_writesPlan_79 {ρ : Type} (k : Int32 → sf_S → Option ρ) : sf_M ρ := fun L st σ => sf_lda L 0 fun a0 => sf_eq a0 0 (sf_ldi L 1 fun x1 => sf_nil st (k x1 σ))
theorem wX12_writesPlan_79_ok {ρ : Type} {Wt : Nat → sf_L → List Value → sf_S → Prop} {Post : ρ → Prop} (hm : sf_mono Wt) {k : Int32 → sf_S → Option ρ} (h : ∀ (x1 : Int32) (σ : sf_S) (u : ρ), k x1 σ = some u → Post u → Wt 79 [(0, some (.ref 0)), (1, some (.int x1))] [] σ) : sf_CK Wt Post 79 (wX12_writesPlan_79 k) := by
  intro L st σ u hf hp
  unfold wX12_writesPlan_79 at hf
  have hf0 := hf
  obtain ⟨a0, e0, hf1⟩ := sf_lda_inv hf0
  obtain ⟨rfl, hf2⟩ := sf_eq_inv hf1
  obtain ⟨x1, e1, hf3⟩ := sf_ldi_inv hf2
  obtain ⟨rfl, hz⟩ := sf_nil_inv hf3
  exact hm _ [(0, some (.ref _)), (1, some (.int x1))] _ _ _ (sf_le_ok (And.intro e0 (And.intro e1 trivial))) (h _ _ _ hz hp)
abbrev wX12_writesPlan_7 {ρ : Type} (k : Int32 → sf_S → Option ρ) : sf_M ρ := fun L st σ => sf_lda L 0 fun a0 => sf_eq a0 0 (sf_ldi L 1 fun x1 => sf_nil st (k x1 σ))
theorem wX12_writesPlan_7_ok {ρ : Type} {Wt : Nat → sf_L → List Value → sf_S → Prop} {Post : ρ → Prop} (hm : sf_mono Wt) {k : Int32 → sf_S → Option ρ} (h : ∀ (x1 : Int32) (σ : sf_S) (u : ρ), k x1 σ = some u → Post u → Wt 7 [(0, some (.ref 0)), (1, some (.int x1))] [] σ) : sf_CK Wt Post 7 (wX12_writesPlan_7 k) := by
  intro L st σ u hf hp
  unfold wX12_writesPlan_7 at hf
  have hf0 := hf
  obtain ⟨a0, e0, hf1⟩ := sf_lda_inv hf0
  obtain ⟨rfl, hf2⟩ := sf_eq_inv hf1
  obtain ⟨x1, e1, hf3⟩ := sf_ldi_inv hf2
  obtain ⟨rfl, hz⟩ := sf_nil_inv hf3
  exact hm _ [(0, some (.ref _)), (1, some (.int x1))] _ _ _ (sf_le_ok (And.intro e0 (And.intro e1 trivial))) (h _ _ _ hz hp)
noncomputable def dX12_writesPlan_101 (K7 : Int32 → sf_S → Option sf_S) (x1 : Int32) (σ : sf_S) : Option sf_S :=
  if sf_in x1 40 then
    (dX12_numbersOf (σ 11 x1.toNatClampNeg) σ).bind fun u1 =>
    if u1.1 ≤ (1 : Int32) then
      K7 (x1 + (1 : Int32)) u1.2
    else
      if sf_in x1 40 then
        (dX12_tellsNumber (u1.2 14 x1.toNatClampNeg) u1.2).bind fun u2 =>
        K7 (x1 + (1 : Int32)) u2
      else
        none
  else
    none
set_option maxRecDepth 100000 in
set_option maxHeartbeats 4000000 in
theorem rX12_writesPlan_101 {Wt : Nat → sf_L → List Value → sf_S → Prop} {Post : sf_S → Prop} (hs : sf_Snd Wt sf_layM sf_hV jX12_writesPlan tX12_writesPlan Post) (hm : sf_mono Wt) {K7 : Int32 → sf_S → Option sf_S} (hK7 : sf_CK Wt Post 7 (wX12_writesPlan_7 K7)) : sf_CK Wt Post 101 (wX12_writesPlan_101 (dX12_writesPlan_101 K7)) := by
  refine wX12_writesPlan_101_ok hm ?_
  intro x1 σ u h hp
  exact sf_run_ok hs (sf_sm_cons hK7 sf_sm_nil) 79 101 _ _ σ u h hp
noncomputable def dX12_writesPlan_79 (K7 : Int32 → sf_S → Option sf_S) (x1 : Int32) (σ : sf_S) : Option sf_S :=
  if sf_in x1 40 then
    (dX12_numbersOf (σ 11 x1.toNatClampNeg) σ).bind fun u1 =>
    if u1.1 ≤ 0 then
      dX12_writesPlan_101 K7 x1 u1.2
    else
      if sf_in x1 40 then
        (dX12_tellsNumber (u1.2 13 x1.toNatClampNeg) u1.2).bind fun u2 =>
        dX12_writesPlan_101 K7 x1 u2
      else
        none
  else
    none
set_option maxRecDepth 100000 in
set_option maxHeartbeats 4000000 in
theorem rX12_writesPlan_79 {Wt : Nat → sf_L → List Value → sf_S → Prop} {Post : sf_S → Prop} (hs : sf_Snd Wt sf_layM sf_hV jX12_writesPlan tX12_writesPlan Post) (hm : sf_mono Wt) {K7 : Int32 → sf_S → Option sf_S} (hK7 : sf_CK Wt Post 7 (wX12_writesPlan_7 K7)) : sf_CK Wt Post 79 (wX12_writesPlan_79 (dX12_writesPlan_79 K7)) := by
  refine wX12_writesPlan_79_ok hm ?_
  intro x1 σ u h hp
  exact sf_run_ok hs (sf_sm_cons (rX12_writesPlan_101 hs hm hK7) sf_sm_nil) 79 79 _ _ σ u h hp
noncomputable def dX12_writesPlan_7 : Nat → Int32 → sf_S → Option sf_S
  | 0 => fun _ _ => none
  | n + 1 => fun x1 σ =>
    if (σ 0 21) ≤ x1 then
      some σ
    else
      if sf_in x1 40 then
        (dX12_tells (σ 11 x1.toNatClampNeg) σ).bind fun u1 =>
        if sf_in x1 40 then
          if (u1 12 x1.toNatClampNeg) = (-1 : Int32) then
            dX12_writesPlan_79 (dX12_writesPlan_7 n) x1 u1
          else
            if sf_in x1 40 then
              if (u1 11 x1.toNatClampNeg) = (108 : Int32) then
                if sf_in x1 40 then
                  (dX12_tells ((48 : Int32) + (u1 12 x1.toNatClampNeg)) u1).bind fun u2 =>
                  dX12_writesPlan_79 (dX12_writesPlan_7 n) x1 u2
                else
                  none
              else
                if sf_in x1 40 then
                  if ¬ (u1 11 x1.toNatClampNeg) = (115 : Int32) then
                    if sf_in x1 40 then
                      (dX12_tells (u1 12 x1.toNatClampNeg) u1).bind fun u3 =>
                      dX12_writesPlan_79 (dX12_writesPlan_7 n) x1 u3
                    else
                      none
                  else
                    if sf_in x1 40 then
                      (dX12_tells ((48 : Int32) + (u1 12 x1.toNatClampNeg)) u1).bind fun u4 =>
                      dX12_writesPlan_79 (dX12_writesPlan_7 n) x1 u4
                    else
                      none
                else
                  none
            else
              none
        else
          none
      else
        none
set_option maxRecDepth 100000 in
set_option maxHeartbeats 4000000 in
theorem rX12_writesPlan_7 {Wt : Nat → sf_L → List Value → sf_S → Prop} {Post : sf_S → Prop} (hs : sf_Snd Wt sf_layM sf_hV jX12_writesPlan tX12_writesPlan Post) (hm : sf_mono Wt) : ∀ n : Nat, sf_CK Wt Post 7 (wX12_writesPlan_7 (dX12_writesPlan_7 n)) := by
  intro n
  induction n with
  | zero => exact wX12_writesPlan_7_ok hm (fun x1 σ u h _ => by simp [dX12_writesPlan_7] at h)
  | succ n ih =>
    refine wX12_writesPlan_7_ok hm ?_
    intro x1 σ u h hp
    exact sf_run_ok hs (sf_sm_cons (rX12_writesPlan_79 hs hm ih) sf_sm_nil) 79 7 _ _ σ u h hp
noncomputable def dX12_writesPlan (σ : sf_S) : Option sf_S :=
  let s1 := sf_up σ 0 29 (0 : Int32)
  dX12_writesPlan_7 sf_F (0 : Int32) s1
noncomputable abbrev gX12_writesPlan (av : List Value) (σ : sf_S) : Option sf_S := match av with
  | [.ref q] => (match sf_rv [0] q with | true => dX12_writesPlan σ | false => none)
  | _ => none
set_option maxRecDepth 100000 in
set_option maxHeartbeats 4000000 in
theorem rX12_writesPlan {Wt : Nat → sf_L → List Value → sf_S → Prop} {Post : sf_S → Prop} (hs : sf_Snd Wt sf_layM sf_hV jX12_writesPlan tX12_writesPlan Post) (hm : sf_mono Wt) : ∀ av σ u, gX12_writesPlan av σ = some u → Post u → (∀ ad, (lg_sl (av.map (sf_v ad))).length ≤ 2) ∧ Wt 0 (sf_ent 0 av) [] σ := by
  intro av σ u h hp
  unfold gX12_writesPlan at h
  split at h
  · rename_i q
    split at h
    · rename_i hq
      have hq : q = 0 := by simpa using sf_rv_mem hq
      subst hq
      refine ⟨fun ad => Nat.le_of_ble_eq_true rfl, ?_⟩
      exact sf_run_ok hs (sf_sm_cons (rX12_writesPlan_7 hs hm sf_F) sf_sm_nil) 79 0 _ _ σ u h hp
    · cases h
  · cases h
theorem kX12_writesPlan (l : Launch) : sf_C l sf_layM yX12_writesPlan cX12_writesPlan 2 none (sf_rm 3 147) (fun av σ => (gX12_writesPlan av σ).map sf_vV) :=
  sf_met (tab := tX12_writesPlan) (J := jX12_writesPlan) (fl := sf_fl12) (cl := sf_cl12) (by decide +kernel) ⟨rfl, rfl⟩ sf_RH_V (by decide +kernel) sf_fl12_ok sf_cl12_ok
    (sf_JO_cons (sf_je_V (n := 2) (cs := [10]) (tv := sf_vV) (kX12_tells l) mwX12_tells (by decide +kernel : decode cX12_writesPlan 22 = .ok (.invokevirtual 227, 3)) wt_1486 wt_1488 wt_96 (by decide +kernel) (by decide) (by decide) (List.forall_mem_cons.mpr ⟨⟨_, _, rfl⟩, fun _ h => absurd h List.not_mem_nil⟩) (sf_RM_of (by omega) (by omega))) (sf_JO_cons (sf_je_V (n := 2) (cs := [10]) (tv := sf_vV) (kX12_tells l) mwX12_tells (by decide +kernel : decode cX12_writesPlan 76 = .ok (.invokevirtual 227, 3)) wt_1486 wt_1488 wt_96 (by decide +kernel) (by decide) (by decide) (List.forall_mem_cons.mpr ⟨⟨_, _, rfl⟩, fun _ h => absurd h List.not_mem_nil⟩) (sf_RM_of (by omega) (by omega))) (sf_JO_cons (sf_je_S (n := 1) (tv := sf_vI) (kX12_numbersOf l) mwX12_numbersOf (by decide +kernel : decode cX12_writesPlan 85 = .ok (.invokestatic 232, 3)) wt_1490 wt_1491 (by decide +kernel) (sf_RM_of (by omega) (by omega))) (sf_JO_cons (sf_je_V (n := 2) (cs := [10]) (tv := sf_vV) (kX12_tellsNumber l) mwX12_tellsNumber (by decide +kernel : decode cX12_writesPlan 98 = .ok (.invokevirtual 235, 3)) wt_1493 wt_1495 wt_97 (by decide +kernel) (by decide) (by decide) (List.forall_mem_cons.mpr ⟨⟨_, _, rfl⟩, fun _ h => absurd h List.not_mem_nil⟩) (sf_RM_of (by omega) (by omega))) (sf_JO_cons (sf_je_S (n := 1) (tv := sf_vI) (kX12_numbersOf l) mwX12_numbersOf (by decide +kernel : decode cX12_writesPlan 107 = .ok (.invokestatic 232, 3)) wt_1490 wt_1491 (by decide +kernel) (sf_RM_of (by omega) (by omega))) (sf_JO_cons (sf_je_V (n := 2) (cs := [10]) (tv := sf_vV) (kX12_tellsNumber l) mwX12_tellsNumber (by decide +kernel : decode cX12_writesPlan 121 = .ok (.invokevirtual 235, 3)) wt_1493 wt_1495 wt_97 (by decide +kernel) (by decide) (by decide) (List.forall_mem_cons.mpr ⟨⟨_, _, rfl⟩, fun _ h => absurd h List.not_mem_nil⟩) (sf_RM_of (by omega) (by omega))) (sf_JO_nil)))))))
    (fun Wt Post hs hm => rX12_writesPlan hs hm)
-- ===== StreamFuserModel.textBy(I)I =====
abbrev tX12_textBy : List (Nat × sf_E) := [(0, (.aload_n 0, 1, 0, .null, [], [])), (1, (.getfield 206, 4, 0, .null, [], [(10, 21)])), (4, (.ifCond .ne 8, 7, 12, .null, [], [])), (7, (.bipush (-2), 9, 0, .int (-2), [], [])), (9, (.goto 42, 12, 51, .null, [], [])), (12, (.iload_n 1, 13, 0, .null, [], [])), (13, (.iconst (-1), 14, 0, .int (-1), [], [])), (14, (.if_icmp .ne 10, 17, 24, .null, [], [])), (17, (.aload_n 0, 18, 0, .null, [], [])), (18, (.getfield 224, 21, 0, .null, [], [(10, 29)])), (21, (.goto 30, 24, 51, .null, [], [])), (24, (.iload_n 1, 25, 0, .null, [], [])), (25, (.i2l, 26, 0, .null, [], [])), (26, (.lconst 0, 27, 0, .long 0, [], [])), (27, (.aload_n 0, 28, 0, .null, [], [])), (28, (.getfield 224, 31, 0, .null, [], [(10, 29)])), (31, (.iconst 1, 32, 0, .int (1), [], [])), (32, (.isub, 33, 0, .null, [], [])), (33, (.i2l, 34, 0, .null, [], [])), (34, (.invokestatic 132, 37, 0, .null, [], [])), (37, (.ifCond .eq 12, 40, 49, .null, [], [])), (40, (.aload_n 0, 41, 0, .null, [], [])), (41, (.getfield 70, 44, 0, .null, [], [(10, 28)])), (44, (.iload_n 1, 45, 0, .null, [], [])), (45, (.iaload, 46, 0, .null, [], [])), (46, (.goto 5, 49, 51, .null, [], [])), (49, (.bipush (-2), 51, 0, .int (-2), [], [])), (51, (.ireturn, 52, 0, .null, [], []))]
noncomputable abbrev jX12_textBy : List (Nat × sf_J (Int32 × sf_S)) := [(34, sf_jI sf_layM [] 3 gX12_in)]
noncomputable def dX12_textBy (x1 : Int32) (σ : sf_S) : Option (Int32 × sf_S) :=
  if ¬ (σ 0 21) = 0 then
    if ¬ x1 = (-1 : Int32) then
      (dX12_in x1.toInt64 (0 : Int64) (((σ 0 29) - (1 : Int32))).toInt64 σ).bind fun u1 =>
      if u1.1 = 0 then
        some ((-2 : Int32), u1.2)
      else
        if sf_in x1 1200 then
          some ((u1.2 21 x1.toNatClampNeg), u1.2)
        else
          none
    else
      some ((σ 0 29), σ)
  else
    some ((-2 : Int32), σ)
noncomputable abbrev gX12_textBy (av : List Value) (σ : sf_S) : Option (Int32 × sf_S) := match av with
  | [.ref q, .int x1] => (match sf_rv [0] q with | true => dX12_textBy x1 σ | false => none)
  | _ => none
set_option maxRecDepth 100000 in
set_option maxHeartbeats 4000000 in
theorem rX12_textBy {Wt : Nat → sf_L → List Value → sf_S → Prop} {Post : (Int32 × sf_S) → Prop} (hs : sf_Snd Wt sf_layM sf_hI jX12_textBy tX12_textBy Post) (hm : sf_mono Wt) : ∀ av σ u, gX12_textBy av σ = some u → Post u → (∀ ad, (lg_sl (av.map (sf_v ad))).length ≤ 2) ∧ Wt 0 (sf_ent 0 av) [] σ := by
  intro av σ u h hp
  unfold gX12_textBy at h
  split at h
  · rename_i q x1
    split at h
    · rename_i hq
      have hq : q = 0 := by simpa using sf_rv_mem hq
      subst hq
      refine ⟨fun ad => Nat.le_of_ble_eq_true rfl, ?_⟩
      exact sf_run_ok hs sf_sm_nil 33 0 _ _ σ u h hp
    · cases h
  · cases h
theorem kX12_textBy (l : Launch) : sf_C l sf_layM yX12_textBy cX12_textBy 2 (some .int) (sf_rm 2 125) (fun av σ => (gX12_textBy av σ).map sf_vI) :=
  sf_met (tab := tX12_textBy) (J := jX12_textBy) (fl := sf_fl12) (cl := sf_cl12) (by decide +kernel) ⟨rfl, rfl⟩ sf_RH_I (by decide +kernel) sf_fl12_ok sf_cl12_ok
    (sf_JO_cons (sf_je_S (n := 3) (tv := sf_vI) (kX12_in l) mwX12_in (by decide +kernel : decode cX12_textBy 34 = .ok (.invokestatic 132, 3)) wt_1378 wt_1379 (by decide +kernel) (sf_RM_of (by omega) (by omega))) (sf_JO_nil))
    (fun Wt Post hs hm => rX12_textBy hs hm)
-- ===== StreamFuserModel.text(I)I =====
abbrev tX12_text : List (Nat × sf_E) := [(0, (.aload_n 0, 1, 0, .null, [], [])), (1, (.invokevirtual 238, 4, 0, .null, [], [])), (4, (.aload_n 0, 5, 0, .null, [], [])), (5, (.iload_n 1, 6, 0, .null, [], [])), (6, (.invokevirtual 241, 9, 0, .null, [], [])), (9, (.ireturn, 10, 0, .null, [], []))]
noncomputable abbrev jX12_text : List (Nat × sf_J (Int32 × sf_S)) := [(1, sf_jV sf_layM [10] 1 gX12_writesPlan), (6, sf_jI sf_layM [10] 2 gX12_textBy)]
noncomputable def dX12_text (x1 : Int32) (σ : sf_S) : Option (Int32 × sf_S) :=
  (dX12_writesPlan σ).bind fun u1 =>
  (dX12_textBy x1 u1).bind fun u2 =>
  some (u2.1, u2.2)
noncomputable abbrev gX12_text (av : List Value) (σ : sf_S) : Option (Int32 × sf_S) := match av with
  | [.ref q, .int x1] => (match sf_rv [0] q with | true => dX12_text x1 σ | false => none)
  | _ => none
set_option maxRecDepth 100000 in
set_option maxHeartbeats 4000000 in
theorem rX12_text {Wt : Nat → sf_L → List Value → sf_S → Prop} {Post : (Int32 × sf_S) → Prop} (hs : sf_Snd Wt sf_layM sf_hI jX12_text tX12_text Post) (hm : sf_mono Wt) : ∀ av σ u, gX12_text av σ = some u → Post u → (∀ ad, (lg_sl (av.map (sf_v ad))).length ≤ 2) ∧ Wt 0 (sf_ent 0 av) [] σ := by
  intro av σ u h hp
  unfold gX12_text at h
  split at h
  · rename_i q x1
    split at h
    · rename_i hq
      have hq : q = 0 := by simpa using sf_rv_mem hq
      subst hq
      refine ⟨fun ad => Nat.le_of_ble_eq_true rfl, ?_⟩
      exact sf_run_ok hs sf_sm_nil 11 0 _ _ σ u h hp
    · cases h
  · cases h
theorem kX12_text (l : Launch) : sf_C l sf_layM yX12_text cX12_text 2 (some .int) (sf_rm 4 168) (fun av σ => (gX12_text av σ).map sf_vI) :=
  sf_met (tab := tX12_text) (J := jX12_text) (fl := sf_fl12) (cl := sf_cl12) (by decide +kernel) ⟨rfl, rfl⟩ sf_RH_I (by decide +kernel) sf_fl12_ok sf_cl12_ok
    (sf_JO_cons (sf_je_V (n := 1) (cs := [10]) (tv := sf_vV) (kX12_writesPlan l) mwX12_writesPlan (by decide +kernel : decode cX12_text 1 = .ok (.invokevirtual 238, 3)) wt_1482 wt_1484 wt_95 (by decide +kernel) (by decide) (by decide) (List.forall_mem_cons.mpr ⟨⟨_, _, rfl⟩, fun _ h => absurd h List.not_mem_nil⟩) (sf_RM_of (by omega) (by omega))) (sf_JO_cons (sf_je_V (n := 2) (cs := [10]) (tv := sf_vI) (kX12_textBy l) mwX12_textBy (by decide +kernel : decode cX12_text 6 = .ok (.invokevirtual 241, 3)) wt_1498 wt_1500 wt_98 (by decide +kernel) (by decide) (by decide) (List.forall_mem_cons.mpr ⟨⟨_, _, rfl⟩, fun _ h => absurd h List.not_mem_nil⟩) (sf_RM_of (by omega) (by omega))) (sf_JO_nil)))
    (fun Wt Post hs hm => rX12_text hs hm)
-- ===== StreamFuserModel.isNil(I)Z =====
abbrev tX12_isNil : List (Nat × sf_E) := [(0, (.aload_n 0, 1, 0, .null, [], [])), (1, (.getfield 40, 4, 0, .null, [], [(10, 17)])), (4, (.iload_n 1, 5, 0, .null, [], [])), (5, (.iaload, 6, 0, .null, [], [])), (6, (.bipush 114, 8, 0, .int (114), [], [])), (8, (.if_icmp .ne 25, 11, 33, .null, [], [])), (11, (.aload_n 0, 12, 0, .null, [], [])), (12, (.getfield 46, 15, 0, .null, [], [(10, 19)])), (15, (.iload_n 1, 16, 0, .null, [], [])), (16, (.iaload, 17, 0, .null, [], [])), (17, (.ifCond .ne 16, 20, 33, .null, [], [])), (20, (.aload_n 0, 21, 0, .null, [], [])), (21, (.getfield 49, 24, 0, .null, [], [(10, 20)])), (24, (.iload_n 1, 25, 0, .null, [], [])), (25, (.iaload, 26, 0, .null, [], [])), (26, (.ifCond .ne 7, 29, 33, .null, [], [])), (29, (.iconst 1, 30, 0, .int (1), [], [])), (30, (.goto 4, 33, 34, .null, [], [])), (33, (.iconst 0, 34, 0, .int (0), [], [])), (34, (.ireturn, 35, 0, .null, [], []))]
noncomputable abbrev jX12_isNil : List (Nat × sf_J (Int32 × sf_S)) := []
noncomputable def dX12_isNil (x1 : Int32) (σ : sf_S) : Option (Int32 × sf_S) :=
  if sf_in x1 40 then
    if ¬ (σ 11 x1.toNatClampNeg) = (114 : Int32) then
      some ((0 : Int32), σ)
    else
      if sf_in x1 40 then
        if ¬ (σ 13 x1.toNatClampNeg) = 0 then
          some ((0 : Int32), σ)
        else
          if sf_in x1 40 then
            if ¬ (σ 14 x1.toNatClampNeg) = 0 then
              some ((0 : Int32), σ)
            else
              some ((1 : Int32), σ)
          else
            none
      else
        none
  else
    none
noncomputable abbrev gX12_isNil (av : List Value) (σ : sf_S) : Option (Int32 × sf_S) := match av with
  | [.ref q, .int x1] => (match sf_rv [0] q with | true => dX12_isNil x1 σ | false => none)
  | _ => none
set_option maxRecDepth 100000 in
set_option maxHeartbeats 4000000 in
theorem rX12_isNil {Wt : Nat → sf_L → List Value → sf_S → Prop} {Post : (Int32 × sf_S) → Prop} (hs : sf_Snd Wt sf_layM sf_hZ jX12_isNil tX12_isNil Post) (hm : sf_mono Wt) : ∀ av σ u, gX12_isNil av σ = some u → Post u → (∀ ad, (lg_sl (av.map (sf_v ad))).length ≤ 2) ∧ Wt 0 (sf_ent 0 av) [] σ := by
  intro av σ u h hp
  unfold gX12_isNil at h
  split at h
  · rename_i q x1
    split at h
    · rename_i hq
      have hq : q = 0 := by simpa using sf_rv_mem hq
      subst hq
      refine ⟨fun ad => Nat.le_of_ble_eq_true rfl, ?_⟩
      exact sf_run_ok hs sf_sm_nil 25 0 _ _ σ u h hp
    · cases h
  · cases h
theorem kX12_isNil (l : Launch) : sf_C l sf_layM yX12_isNil cX12_isNil 2 (some .boolean) (sf_rm 1 100) (fun av σ => (gX12_isNil av σ).map sf_vI) :=
  sf_met (tab := tX12_isNil) (J := jX12_isNil) (fl := sf_fl12) (cl := sf_cl12) (by decide +kernel) ⟨rfl, rfl⟩ sf_RH_Z (by decide +kernel) sf_fl12_ok sf_cl12_ok
    (sf_JO_nil)
    (fun Wt Post hs hm => rX12_isNil hs hm)
-- ===== StreamFuserModel.changes(I)Z =====
abbrev tX12_changes : List (Nat × sf_E) := [(0, (.iload_n 0, 1, 0, .null, [], [])), (1, (.bipush 43, 3, 0, .int (43), [], [])), (3, (.if_icmp .eq 15, 6, 18, .null, [], [])), (6, (.iload_n 0, 7, 0, .null, [], [])), (7, (.bipush 42, 9, 0, .int (42), [], [])), (9, (.if_icmp .eq 9, 12, 18, .null, [], [])), (12, (.iload_n 0, 13, 0, .null, [], [])), (13, (.bipush 37, 15, 0, .int (37), [], [])), (15, (.if_icmp .ne 7, 18, 22, .null, [], [])), (18, (.iconst 1, 19, 0, .int (1), [], [])), (19, (.goto 4, 22, 23, .null, [], [])), (22, (.iconst 0, 23, 0, .int (0), [], [])), (23, (.ireturn, 24, 0, .null, [], []))]
noncomputable abbrev jX12_changes : List (Nat × sf_J (Int32 × sf_S)) := []
noncomputable def dX12_changes (x0 : Int32) (σ : sf_S) : Option (Int32 × sf_S) :=
  if x0 = (43 : Int32) then
    some ((1 : Int32), σ)
  else
    if x0 = (42 : Int32) then
      some ((1 : Int32), σ)
    else
      if ¬ x0 = (37 : Int32) then
        some ((0 : Int32), σ)
      else
        some ((1 : Int32), σ)
noncomputable abbrev gX12_changes (av : List Value) (σ : sf_S) : Option (Int32 × sf_S) := match av with
  | [.int x0] => dX12_changes x0 σ
  | _ => none
set_option maxRecDepth 100000 in
set_option maxHeartbeats 4000000 in
theorem rX12_changes {Wt : Nat → sf_L → List Value → sf_S → Prop} {Post : (Int32 × sf_S) → Prop} (hs : sf_Snd Wt sf_layM sf_hZ jX12_changes tX12_changes Post) (hm : sf_mono Wt) : ∀ av σ u, gX12_changes av σ = some u → Post u → (∀ ad, (lg_sl (av.map (sf_v ad))).length ≤ 1) ∧ Wt 0 (sf_ent 0 av) [] σ := by
  intro av σ u h hp
  unfold gX12_changes at h
  split at h
  · rename_i x0
    refine ⟨fun ad => Nat.le_of_ble_eq_true rfl, ?_⟩
    exact sf_run_ok hs sf_sm_nil 18 0 _ _ σ u h hp
  · cases h
theorem kX12_changes (l : Launch) : sf_C l sf_layM yX12_changes cX12_changes 1 (some .boolean) (sf_rm 1 100) (fun av σ => (gX12_changes av σ).map sf_vI) :=
  sf_met (tab := tX12_changes) (J := jX12_changes) (fl := sf_fl12) (cl := sf_cl12) (by decide +kernel) ⟨rfl, rfl⟩ sf_RH_Z (by decide +kernel) sf_fl12_ok sf_cl12_ok
    (sf_JO_nil)
    (fun Wt Post hs hm => rX12_changes hs hm)
-- ===== StreamFuserModel.ruleOfCut(I)I =====
abbrev tX12_ruleOfCut : List (Nat × sf_E) := [(0, (.aload_n 0, 1, 0, .null, [], [])), (1, (.getfield 40, 4, 0, .null, [], [(10, 17)])), (4, (.iload_n 1, 5, 0, .null, [], [])), (5, (.iaload, 6, 0, .null, [], [])), (6, (.bipush 116, 8, 0, .int (116), [], [])), (8, (.if_icmp .ne 7, 11, 15, .null, [], [])), (11, (.iconst 1, 12, 0, .int (1), [], [])), (12, (.goto 4, 15, 16, .null, [], [])), (15, (.iconst 0, 16, 0, .int (0), [], [])), (16, (.istore_n 2, 17, 0, .null, [], [])), (17, (.aload_n 0, 18, 0, .null, [], [])), (18, (.getfield 40, 21, 0, .null, [], [(10, 17)])), (21, (.iload_n 1, 22, 0, .null, [], [])), (22, (.iconst 1, 23, 0, .int (1), [], [])), (23, (.iadd, 24, 0, .null, [], [])), (24, (.iaload, 25, 0, .null, [], [])), (25, (.istore_n 3, 26, 0, .null, [], [])), (26, (.iload_n 3, 27, 0, .null, [], [])), (27, (.aload_n 0, 28, 0, .null, [], [])), (28, (.getfield 40, 31, 0, .null, [], [(10, 17)])), (31, (.iload_n 1, 32, 0, .null, [], [])), (32, (.iaload, 33, 0, .null, [], [])), (33, (.if_icmp .ne 13, 36, 46, .null, [], [])), (36, (.iload_n 2, 37, 0, .null, [], [])), (37, (.ifCond .eq 7, 40, 44, .null, [], [])), (40, (.iconst 1, 41, 0, .int (1), [], [])), (41, (.goto 4, 44, 45, .null, [], [])), (44, (.iconst 2, 45, 0, .int (2), [], [])), (45, (.ireturn, 46, 0, .null, [], [])), (46, (.iload_n 3, 47, 0, .null, [], [])), (47, (.invokestatic 244, 50, 0, .null, [], [])), (50, (.ifCond .eq 13, 53, 63, .null, [], [])), (53, (.iload_n 2, 54, 0, .null, [], [])), (54, (.ifCond .eq 7, 57, 61, .null, [], [])), (57, (.iconst 3, 58, 0, .int (3), [], [])), (58, (.goto 4, 61, 62, .null, [], [])), (61, (.iconst 4, 62, 0, .int (4), [], [])), (62, (.ireturn, 63, 0, .null, [], [])), (63, (.iload_n 2, 64, 0, .null, [], [])), (64, (.ifCond .ne 21, 67, 85, .null, [], [])), (67, (.iload_n 3, 68, 0, .null, [], [])), (68, (.bipush 116, 70, 0, .int (116), [], [])), (70, (.if_icmp .ne 15, 73, 85, .null, [], [])), (73, (.aload_n 0, 74, 0, .null, [], [])), (74, (.iload_n 1, 75, 0, .null, [], [])), (75, (.iconst 2, 76, 0, .int (2), [], [])), (76, (.iadd, 77, 0, .null, [], [])), (77, (.invokevirtual 216, 80, 0, .null, [], [])), (80, (.ifCond .eq 5, 83, 85, .null, [], [])), (83, (.iconst 5, 84, 0, .int (5), [], [])), (84, (.ireturn, 85, 0, .null, [], [])), (85, (.iload_n 3, 86, 0, .null, [], [])), (86, (.bipush 114, 88, 0, .int (114), [], [])), (88, (.if_icmp .ne 15, 91, 103, .null, [], [])), (91, (.iload_n 2, 92, 0, .null, [], [])), (92, (.ifCond .eq 8, 95, 100, .null, [], [])), (95, (.bipush 6, 97, 0, .int (6), [], [])), (97, (.goto 5, 100, 102, .null, [], [])), (100, (.bipush 7, 102, 0, .int (7), [], [])), (102, (.ireturn, 103, 0, .null, [], [])), (103, (.iload_n 2, 104, 0, .null, [], [])), (104, (.ifCond .ne 12, 107, 116, .null, [], [])), (107, (.iload_n 3, 108, 0, .null, [], [])), (108, (.bipush 105, 110, 0, .int (105), [], [])), (110, (.if_icmp .ne 6, 113, 116, .null, [], [])), (113, (.bipush 8, 115, 0, .int (8), [], [])), (115, (.ireturn, 116, 0, .null, [], [])), (116, (.aload_n 0, 117, 0, .null, [], [])), (117, (.getfield 46, 120, 0, .null, [], [(10, 19)])), (120, (.iload_n 1, 121, 0, .null, [], [])), (121, (.iaload, 122, 0, .null, [], [])), (122, (.ifCond .ne 17, 125, 139, .null, [], [])), (125, (.iload_n 2, 126, 0, .null, [], [])), (126, (.ifCond .eq 8, 129, 134, .null, [], [])), (129, (.bipush 9, 131, 0, .int (9), [], [])), (131, (.goto 9, 134, 140, .null, [], [])), (134, (.bipush 10, 136, 0, .int (10), [], [])), (136, (.goto 4, 139, 140, .null, [], [])), (139, (.iconst (-1), 140, 0, .int (-1), [], [])), (140, (.ireturn, 141, 0, .null, [], []))]
noncomputable abbrev jX12_ruleOfCut : List (Nat × sf_J (Int32 × sf_S)) := [(47, sf_jI sf_layM [] 1 gX12_changes), (77, sf_jI sf_layM [10] 2 gX12_isPure)]
abbrev wX12_ruleOfCut_116 {ρ : Type} (k : Int32 → Int32 → sf_S → Option ρ) : sf_M ρ := fun L st σ => sf_lda L 0 fun a0 => sf_eq a0 0 (sf_ldi L 1 fun x1 => sf_ldi L 2 fun x2 => sf_nil st (k x1 x2 σ))
theorem wX12_ruleOfCut_116_ok {ρ : Type} {Wt : Nat → sf_L → List Value → sf_S → Prop} {Post : ρ → Prop} (hm : sf_mono Wt) {k : Int32 → Int32 → sf_S → Option ρ} (h : ∀ (x1 : Int32) (x2 : Int32) (σ : sf_S) (u : ρ), k x1 x2 σ = some u → Post u → Wt 116 [(0, some (.ref 0)), (1, some (.int x1)), (2, some (.int x2))] [] σ) : sf_CK Wt Post 116 (wX12_ruleOfCut_116 k) := by
  intro L st σ u hf hp
  unfold wX12_ruleOfCut_116 at hf
  have hf0 := hf
  obtain ⟨a0, e0, hf1⟩ := sf_lda_inv hf0
  obtain ⟨rfl, hf2⟩ := sf_eq_inv hf1
  obtain ⟨x1, e1, hf3⟩ := sf_ldi_inv hf2
  obtain ⟨x2, e2, hf4⟩ := sf_ldi_inv hf3
  obtain ⟨rfl, hz⟩ := sf_nil_inv hf4
  exact hm _ [(0, some (.ref _)), (1, some (.int x1)), (2, some (.int x2))] _ _ _ (sf_le_ok (And.intro e0 (And.intro e1 (And.intro e2 trivial)))) (h _ _ _ _ hz hp)
abbrev wX12_ruleOfCut_85 {ρ : Type} (k : Int32 → Int32 → Int32 → sf_S → Option ρ) : sf_M ρ := fun L st σ => sf_lda L 0 fun a0 => sf_eq a0 0 (sf_ldi L 1 fun x1 => sf_ldi L 2 fun x2 => sf_ldi L 3 fun x3 => sf_nil st (k x1 x2 x3 σ))
theorem wX12_ruleOfCut_85_ok {ρ : Type} {Wt : Nat → sf_L → List Value → sf_S → Prop} {Post : ρ → Prop} (hm : sf_mono Wt) {k : Int32 → Int32 → Int32 → sf_S → Option ρ} (h : ∀ (x1 : Int32) (x2 : Int32) (x3 : Int32) (σ : sf_S) (u : ρ), k x1 x2 x3 σ = some u → Post u → Wt 85 [(0, some (.ref 0)), (1, some (.int x1)), (2, some (.int x2)), (3, some (.int x3))] [] σ) : sf_CK Wt Post 85 (wX12_ruleOfCut_85 k) := by
  intro L st σ u hf hp
  unfold wX12_ruleOfCut_85 at hf
  have hf0 := hf
  obtain ⟨a0, e0, hf1⟩ := sf_lda_inv hf0
  obtain ⟨rfl, hf2⟩ := sf_eq_inv hf1
  obtain ⟨x1, e1, hf3⟩ := sf_ldi_inv hf2
  obtain ⟨x2, e2, hf4⟩ := sf_ldi_inv hf3
  obtain ⟨x3, e3, hf5⟩ := sf_ldi_inv hf4
  obtain ⟨rfl, hz⟩ := sf_nil_inv hf5
  exact hm _ [(0, some (.ref _)), (1, some (.int x1)), (2, some (.int x2)), (3, some (.int x3))] _ _ _ (sf_le_ok (And.intro e0 (And.intro e1 (And.intro e2 (And.intro e3 trivial))))) (h _ _ _ _ _ hz hp)
abbrev wX12_ruleOfCut_16 {ρ : Type} (k : Int32 → Int32 → sf_S → Option ρ) : sf_M ρ := fun L st σ => sf_lda L 0 fun a0 => sf_eq a0 0 (sf_ldi L 1 fun x1 => sf_i1 st fun y0 st => sf_nil st (k x1 y0 σ))
theorem wX12_ruleOfCut_16_ok {ρ : Type} {Wt : Nat → sf_L → List Value → sf_S → Prop} {Post : ρ → Prop} (hm : sf_mono Wt) {k : Int32 → Int32 → sf_S → Option ρ} (h : ∀ (x1 : Int32) (y0 : Int32) (σ : sf_S) (u : ρ), k x1 y0 σ = some u → Post u → Wt 16 [(0, some (.ref 0)), (1, some (.int x1))] [.int y0] σ) : sf_CK Wt Post 16 (wX12_ruleOfCut_16 k) := by
  intro L st σ u hf hp
  unfold wX12_ruleOfCut_16 at hf
  have hf0 := hf
  obtain ⟨a0, e0, hf1⟩ := sf_lda_inv hf0
  obtain ⟨rfl, hf2⟩ := sf_eq_inv hf1
  obtain ⟨x1, e1, hf3⟩ := sf_ldi_inv hf2
  obtain ⟨y0, st, rfl, hf4⟩ := sf_i1_inv hf3
  obtain ⟨rfl, hz⟩ := sf_nil_inv hf4
  exact hm _ [(0, some (.ref _)), (1, some (.int x1))] _ _ _ (sf_le_ok (And.intro e0 (And.intro e1 trivial))) (h _ _ _ _ hz hp)
noncomputable def dX12_ruleOfCut_116 (x1 : Int32) (x2 : Int32) (σ : sf_S) : Option (Int32 × sf_S) :=
  if sf_in x1 40 then
    if ¬ (σ 13 x1.toNatClampNeg) = 0 then
      some ((-1 : Int32), σ)
    else
      if x2 = 0 then
        some ((10 : Int32), σ)
      else
        some ((9 : Int32), σ)
  else
    none
set_option maxRecDepth 100000 in
set_option maxHeartbeats 4000000 in
theorem rX12_ruleOfCut_116 {Wt : Nat → sf_L → List Value → sf_S → Prop} {Post : (Int32 × sf_S) → Prop} (hs : sf_Snd Wt sf_layM sf_hI jX12_ruleOfCut tX12_ruleOfCut Post) (hm : sf_mono Wt) : sf_CK Wt Post 116 (wX12_ruleOfCut_116 (dX12_ruleOfCut_116)) := by
  refine wX12_ruleOfCut_116_ok hm ?_
  intro x1 x2 σ u h hp
  exact sf_run_ok hs sf_sm_nil 85 116 _ _ σ u h hp
noncomputable def dX12_ruleOfCut_85 (x1 : Int32) (x2 : Int32) (x3 : Int32) (σ : sf_S) : Option (Int32 × sf_S) :=
  if ¬ x3 = (114 : Int32) then
    if ¬ x2 = 0 then
      dX12_ruleOfCut_116 x1 x2 σ
    else
      if ¬ x3 = (105 : Int32) then
        dX12_ruleOfCut_116 x1 x2 σ
      else
        some ((8 : Int32), σ)
  else
    if x2 = 0 then
      some ((7 : Int32), σ)
    else
      some ((6 : Int32), σ)
set_option maxRecDepth 100000 in
set_option maxHeartbeats 4000000 in
theorem rX12_ruleOfCut_85 {Wt : Nat → sf_L → List Value → sf_S → Prop} {Post : (Int32 × sf_S) → Prop} (hs : sf_Snd Wt sf_layM sf_hI jX12_ruleOfCut tX12_ruleOfCut Post) (hm : sf_mono Wt) : sf_CK Wt Post 85 (wX12_ruleOfCut_85 (dX12_ruleOfCut_85)) := by
  refine wX12_ruleOfCut_85_ok hm ?_
  intro x1 x2 x3 σ u h hp
  exact sf_run_ok hs (sf_sm_cons (rX12_ruleOfCut_116 hs hm) sf_sm_nil) 85 85 _ _ σ u h hp
noncomputable def dX12_ruleOfCut_16 (x1 : Int32) (y0 : Int32) (σ : sf_S) : Option (Int32 × sf_S) :=
  if sf_in (x1 + (1 : Int32)) 40 then
    let v1 := (σ 11 ((x1 + (1 : Int32))).toNatClampNeg)
    if sf_in x1 40 then
      if ¬ v1 = (σ 11 x1.toNatClampNeg) then
        (dX12_changes v1 σ).bind fun u2 =>
        if u2.1 = 0 then
          if ¬ y0 = 0 then
            dX12_ruleOfCut_85 x1 y0 v1 u2.2
          else
            if ¬ v1 = (116 : Int32) then
              dX12_ruleOfCut_85 x1 y0 v1 u2.2
            else
              (dX12_isPure (x1 + (2 : Int32)) u2.2).bind fun u3 =>
              if u3.1 = 0 then
                dX12_ruleOfCut_85 x1 y0 v1 u3.2
              else
                some ((5 : Int32), u3.2)
        else
          if y0 = 0 then
            some ((4 : Int32), u2.2)
          else
            some ((3 : Int32), u2.2)
      else
        if y0 = 0 then
          some ((2 : Int32), σ)
        else
          some ((1 : Int32), σ)
    else
      none
  else
    none
set_option maxRecDepth 100000 in
set_option maxHeartbeats 4000000 in
theorem rX12_ruleOfCut_16 {Wt : Nat → sf_L → List Value → sf_S → Prop} {Post : (Int32 × sf_S) → Prop} (hs : sf_Snd Wt sf_layM sf_hI jX12_ruleOfCut tX12_ruleOfCut Post) (hm : sf_mono Wt) : sf_CK Wt Post 16 (wX12_ruleOfCut_16 (dX12_ruleOfCut_16)) := by
  refine wX12_ruleOfCut_16_ok hm ?_
  intro x1 y0 σ u h hp
  exact sf_run_ok hs (sf_sm_cons (rX12_ruleOfCut_85 hs hm) sf_sm_nil) 85 16 _ _ σ u h hp
noncomputable def dX12_ruleOfCut (x1 : Int32) (σ : sf_S) : Option (Int32 × sf_S) :=
  if sf_in x1 40 then
    if ¬ (σ 11 x1.toNatClampNeg) = (116 : Int32) then
      dX12_ruleOfCut_16 x1 (0 : Int32) σ
    else
      dX12_ruleOfCut_16 x1 (1 : Int32) σ
  else
    none
noncomputable abbrev gX12_ruleOfCut (av : List Value) (σ : sf_S) : Option (Int32 × sf_S) := match av with
  | [.ref q, .int x1] => (match sf_rv [0] q with | true => dX12_ruleOfCut x1 σ | false => none)
  | _ => none
set_option maxRecDepth 100000 in
set_option maxHeartbeats 4000000 in
theorem rX12_ruleOfCut {Wt : Nat → sf_L → List Value → sf_S → Prop} {Post : (Int32 × sf_S) → Prop} (hs : sf_Snd Wt sf_layM sf_hI jX12_ruleOfCut tX12_ruleOfCut Post) (hm : sf_mono Wt) : ∀ av σ u, gX12_ruleOfCut av σ = some u → Post u → (∀ ad, (lg_sl (av.map (sf_v ad))).length ≤ 4) ∧ Wt 0 (sf_ent 0 av) [] σ := by
  intro av σ u h hp
  unfold gX12_ruleOfCut at h
  split at h
  · rename_i q x1
    split at h
    · rename_i hq
      have hq : q = 0 := by simpa using sf_rv_mem hq
      subst hq
      refine ⟨fun ad => Nat.le_of_ble_eq_true rfl, ?_⟩
      exact sf_run_ok hs (sf_sm_cons (rX12_ruleOfCut_16 hs hm) sf_sm_nil) 85 0 _ _ σ u h hp
    · cases h
  · cases h
theorem kX12_ruleOfCut (l : Launch) : sf_C l sf_layM yX12_ruleOfCut cX12_ruleOfCut 4 (some .int) (sf_rm 2 122) (fun av σ => (gX12_ruleOfCut av σ).map sf_vI) :=
  sf_met (tab := tX12_ruleOfCut) (J := jX12_ruleOfCut) (fl := sf_fl12) (cl := sf_cl12) (by decide +kernel) ⟨rfl, rfl⟩ sf_RH_I (by decide +kernel) sf_fl12_ok sf_cl12_ok
    (sf_JO_cons (sf_je_S (n := 1) (tv := sf_vI) (kX12_changes l) mwX12_changes (by decide +kernel : decode cX12_ruleOfCut 47 = .ok (.invokestatic 244, 3)) wt_1527 wt_1528 (by decide +kernel) (sf_RM_of (by omega) (by omega))) (sf_JO_cons (sf_je_V (n := 2) (cs := [10]) (tv := sf_vI) (kX12_isPure l) mwX12_isPure (by decide +kernel : decode cX12_ruleOfCut 77 = .ok (.invokevirtual 216, 3)) wt_1474 wt_1476 wt_94 (by decide +kernel) (by decide) (by decide) (List.forall_mem_cons.mpr ⟨⟨_, _, rfl⟩, fun _ h => absurd h List.not_mem_nil⟩) (sf_RM_of (by omega) (by omega))) (sf_JO_nil)))
    (fun Wt Post hs hm => rX12_ruleOfCut hs hm)
-- ===== StreamFuserModel.ruleAt(I)I =====
abbrev tX12_ruleAt : List (Nat × sf_E) := [(0, (.aload_n 0, 1, 0, .null, [], [])), (1, (.getfield 40, 4, 0, .null, [], [(10, 17)])), (4, (.iload_n 1, 5, 0, .null, [], [])), (5, (.iaload, 6, 0, .null, [], [])), (6, (.istore_n 2, 7, 0, .null, [], [])), (7, (.iload_n 2, 8, 0, .null, [], [])), (8, (.bipush 114, 10, 0, .int (114), [], [])), (10, (.if_icmp .ne 32, 13, 42, .null, [], [])), (13, (.aload_n 0, 14, 0, .null, [], [])), (14, (.getfield 49, 17, 0, .null, [], [(10, 20)])), (17, (.iload_n 1, 18, 0, .null, [], [])), (18, (.iaload, 19, 0, .null, [], [])), (19, (.aload_n 0, 20, 0, .null, [], [])), (20, (.getfield 46, 23, 0, .null, [], [(10, 19)])), (23, (.iload_n 1, 24, 0, .null, [], [])), (24, (.iaload, 25, 0, .null, [], [])), (25, (.if_icmp .gt 15, 28, 40, .null, [], [])), (28, (.aload_n 0, 29, 0, .null, [], [])), (29, (.iload_n 1, 30, 0, .null, [], [])), (30, (.invokevirtual 247, 33, 0, .null, [], [])), (33, (.ifCond .ne 7, 36, 40, .null, [], [])), (36, (.iconst 0, 37, 0, .int (0), [], [])), (37, (.goto 4, 40, 41, .null, [], [])), (40, (.iconst (-1), 41, 0, .int (-1), [], [])), (41, (.ireturn, 42, 0, .null, [], [])), (42, (.iload_n 2, 43, 0, .null, [], [])), (43, (.bipush 116, 45, 0, .int (116), [], [])), (45, (.if_icmp .eq 9, 48, 54, .null, [], [])), (48, (.iload_n 2, 49, 0, .null, [], [])), (49, (.bipush 100, 51, 0, .int (100), [], [])), (51, (.if_icmp .ne 9, 54, 60, .null, [], [])), (54, (.aload_n 0, 55, 0, .null, [], [])), (55, (.iload_n 1, 56, 0, .null, [], [])), (56, (.invokevirtual 250, 59, 0, .null, [], [])), (59, (.ireturn, 60, 0, .null, [], [])), (60, (.iload_n 2, 61, 0, .null, [], [])), (61, (.bipush 99, 63, 0, .int (99), [], [])), (63, (.if_icmp .ne 36, 66, 99, .null, [], [])), (66, (.aload_n 0, 67, 0, .null, [], [])), (67, (.aload_n 0, 68, 0, .null, [], [])), (68, (.getfield 55, 71, 0, .null, [], [(10, 23)])), (71, (.iload_n 1, 72, 0, .null, [], [])), (72, (.iaload, 73, 0, .null, [], [])), (73, (.invokevirtual 247, 76, 0, .null, [], [])), (76, (.ifCond .ne 16, 79, 92, .null, [], [])), (79, (.aload_n 0, 80, 0, .null, [], [])), (80, (.aload_n 0, 81, 0, .null, [], [])), (81, (.getfield 58, 84, 0, .null, [], [(10, 24)])), (84, (.iload_n 1, 85, 0, .null, [], [])), (85, (.iaload, 86, 0, .null, [], [])), (86, (.invokevirtual 247, 89, 0, .null, [], [])), (89, (.ifCond .eq 8, 92, 97, .null, [], [])), (92, (.bipush 12, 94, 0, .int (12), [], [])), (94, (.goto 4, 97, 98, .null, [], [])), (97, (.iconst (-1), 98, 0, .int (-1), [], [])), (98, (.ireturn, 99, 0, .null, [], [])), (99, (.iload_n 2, 100, 0, .null, [], [])), (100, (.invokestatic 163, 103, 0, .null, [], [])), (103, (.ifCond .le 21, 106, 124, .null, [], [])), (106, (.aload_n 0, 107, 0, .null, [], [])), (107, (.aload_n 0, 108, 0, .null, [], [])), (108, (.getfield 55, 111, 0, .null, [], [(10, 23)])), (111, (.iload_n 1, 112, 0, .null, [], [])), (112, (.iaload, 113, 0, .null, [], [])), (113, (.invokevirtual 247, 116, 0, .null, [], [])), (116, (.ifCond .eq 8, 119, 124, .null, [], [])), (119, (.bipush 11, 121, 0, .int (11), [], [])), (121, (.goto 4, 124, 125, .null, [], [])), (124, (.iconst (-1), 125, 0, .int (-1), [], [])), (125, (.ireturn, 126, 0, .null, [], []))]
noncomputable abbrev jX12_ruleAt : List (Nat × sf_J (Int32 × sf_S)) := [(30, sf_jI sf_layM [10] 2 gX12_isNil), (56, sf_jI sf_layM [10] 2 gX12_ruleOfCut), (73, sf_jI sf_layM [10] 2 gX12_isNil), (86, sf_jI sf_layM [10] 2 gX12_isNil), (100, sf_jI sf_layM [] 1 gX12_partsOf), (113, sf_jI sf_layM [10] 2 gX12_isNil)]
noncomputable def dX12_ruleAt (x1 : Int32) (σ : sf_S) : Option (Int32 × sf_S) :=
  if sf_in x1 40 then
    let v1 := (σ 11 x1.toNatClampNeg)
    if ¬ v1 = (114 : Int32) then
      if v1 = (116 : Int32) then
        (dX12_ruleOfCut x1 σ).bind fun u2 =>
        some (u2.1, u2.2)
      else
        if ¬ v1 = (100 : Int32) then
          if ¬ v1 = (99 : Int32) then
            (dX12_partsOf v1 σ).bind fun u3 =>
            if u3.1 ≤ 0 then
              some ((-1 : Int32), u3.2)
            else
              if sf_in x1 40 then
                (dX12_isNil (u3.2 16 x1.toNatClampNeg) u3.2).bind fun u4 =>
                if u4.1 = 0 then
                  some ((-1 : Int32), u4.2)
                else
                  some ((11 : Int32), u4.2)
              else
                none
          else
            if sf_in x1 40 then
              (dX12_isNil (σ 16 x1.toNatClampNeg) σ).bind fun u5 =>
              if ¬ u5.1 = 0 then
                some ((12 : Int32), u5.2)
              else
                if sf_in x1 40 then
                  (dX12_isNil (u5.2 17 x1.toNatClampNeg) u5.2).bind fun u6 =>
                  if u6.1 = 0 then
                    some ((-1 : Int32), u6.2)
                  else
                    some ((12 : Int32), u6.2)
                else
                  none
            else
              none
        else
          (dX12_ruleOfCut x1 σ).bind fun u7 =>
          some (u7.1, u7.2)
    else
      if sf_in x1 40 then
        if sf_in x1 40 then
          if (σ 13 x1.toNatClampNeg) < (σ 14 x1.toNatClampNeg) then
            some ((-1 : Int32), σ)
          else
            (dX12_isNil x1 σ).bind fun u8 =>
            if ¬ u8.1 = 0 then
              some ((-1 : Int32), u8.2)
            else
              some ((0 : Int32), u8.2)
        else
          none
      else
        none
  else
    none
noncomputable abbrev gX12_ruleAt (av : List Value) (σ : sf_S) : Option (Int32 × sf_S) := match av with
  | [.ref q, .int x1] => (match sf_rv [0] q with | true => dX12_ruleAt x1 σ | false => none)
  | _ => none
set_option maxRecDepth 100000 in
set_option maxHeartbeats 4000000 in
theorem rX12_ruleAt {Wt : Nat → sf_L → List Value → sf_S → Prop} {Post : (Int32 × sf_S) → Prop} (hs : sf_Snd Wt sf_layM sf_hI jX12_ruleAt tX12_ruleAt Post) (hm : sf_mono Wt) : ∀ av σ u, gX12_ruleAt av σ = some u → Post u → (∀ ad, (lg_sl (av.map (sf_v ad))).length ≤ 3) ∧ Wt 0 (sf_ent 0 av) [] σ := by
  intro av σ u h hp
  unfold gX12_ruleAt at h
  split at h
  · rename_i q x1
    split at h
    · rename_i hq
      have hq : q = 0 := by simpa using sf_rv_mem hq
      subst hq
      refine ⟨fun ad => Nat.le_of_ble_eq_true rfl, ?_⟩
      exact sf_run_ok hs sf_sm_nil 75 0 _ _ σ u h hp
    · cases h
  · cases h
theorem kX12_ruleAt (l : Launch) : sf_C l sf_layM yX12_ruleAt cX12_ruleAt 3 (some .int) (sf_rm 3 145) (fun av σ => (gX12_ruleAt av σ).map sf_vI) :=
  sf_met (tab := tX12_ruleAt) (J := jX12_ruleAt) (fl := sf_fl12) (cl := sf_cl12) (by decide +kernel) ⟨rfl, rfl⟩ sf_RH_I (by decide +kernel) sf_fl12_ok sf_cl12_ok
    (sf_JO_cons (sf_je_V (n := 2) (cs := [10]) (tv := sf_vI) (kX12_isNil l) mwX12_isNil (by decide +kernel : decode cX12_ruleAt 30 = .ok (.invokevirtual 247, 3)) wt_1519 wt_1521 wt_102 (by decide +kernel) (by decide) (by decide) (List.forall_mem_cons.mpr ⟨⟨_, _, rfl⟩, fun _ h => absurd h List.not_mem_nil⟩) (sf_RM_of (by omega) (by omega))) (sf_JO_cons (sf_je_V (n := 2) (cs := [10]) (tv := sf_vI) (kX12_ruleOfCut l) mwX12_ruleOfCut (by decide +kernel : decode cX12_ruleAt 56 = .ok (.invokevirtual 250, 3)) wt_1523 wt_1525 wt_103 (by decide +kernel) (by decide) (by decide) (List.forall_mem_cons.mpr ⟨⟨_, _, rfl⟩, fun _ h => absurd h List.not_mem_nil⟩) (sf_RM_of (by omega) (by omega))) (sf_JO_cons (sf_je_V (n := 2) (cs := [10]) (tv := sf_vI) (kX12_isNil l) mwX12_isNil (by decide +kernel : decode cX12_ruleAt 73 = .ok (.invokevirtual 247, 3)) wt_1519 wt_1521 wt_102 (by decide +kernel) (by decide) (by decide) (List.forall_mem_cons.mpr ⟨⟨_, _, rfl⟩, fun _ h => absurd h List.not_mem_nil⟩) (sf_RM_of (by omega) (by omega))) (sf_JO_cons (sf_je_V (n := 2) (cs := [10]) (tv := sf_vI) (kX12_isNil l) mwX12_isNil (by decide +kernel : decode cX12_ruleAt 86 = .ok (.invokevirtual 247, 3)) wt_1519 wt_1521 wt_102 (by decide +kernel) (by decide) (by decide) (List.forall_mem_cons.mpr ⟨⟨_, _, rfl⟩, fun _ h => absurd h List.not_mem_nil⟩) (sf_RM_of (by omega) (by omega))) (sf_JO_cons (sf_je_S (n := 1) (tv := sf_vI) (kX12_partsOf l) mwX12_partsOf (by decide +kernel : decode cX12_ruleAt 100 = .ok (.invokestatic 163, 3)) wt_1431 wt_1432 (by decide +kernel) (sf_RM_of (by omega) (by omega))) (sf_JO_cons (sf_je_V (n := 2) (cs := [10]) (tv := sf_vI) (kX12_isNil l) mwX12_isNil (by decide +kernel : decode cX12_ruleAt 113 = .ok (.invokevirtual 247, 3)) wt_1519 wt_1521 wt_102 (by decide +kernel) (by decide) (by decide) (List.forall_mem_cons.mpr ⟨⟨_, _, rfl⟩, fun _ h => absurd h List.not_mem_nil⟩) (sf_RM_of (by omega) (by omega))) (sf_JO_nil)))))))
    (fun Wt Post hs hm => rX12_ruleAt hs hm)
-- ===== StreamFuserModel.cuts(II)V =====
abbrev tX12_cuts : List (Nat × sf_E) := [(0, (.aload_n 0, 1, 0, .null, [], [])), (1, (.dup, 2, 0, .null, [], [])), (2, (.getfield 206, 5, 0, .null, [], [(10, 21)])), (5, (.iload_n 2, 6, 0, .null, [], [])), (6, (.isub, 7, 0, .null, [], [])), (7, (.putfield 206, 10, 0, .null, [], [(10, 21)])), (10, (.iload_n 1, 11, 0, .null, [], [])), (11, (.istore_n 3, 12, 0, .null, [], [])), (12, (.iload_n 3, 13, 0, .null, [], [])), (13, (.aload_n 0, 14, 0, .null, [], [])), (14, (.getfield 206, 17, 0, .null, [], [(10, 21)])), (17, (.if_icmp .ge 65, 20, 82, .null, [], [])), (20, (.aload_n 0, 21, 0, .null, [], [])), (21, (.getfield 40, 24, 0, .null, [], [(10, 17)])), (24, (.iload_n 3, 25, 0, .null, [], [])), (25, (.aload_n 0, 26, 0, .null, [], [])), (26, (.getfield 40, 29, 0, .null, [], [(10, 17)])), (29, (.iload_n 3, 30, 0, .null, [], [])), (30, (.iload_n 2, 31, 0, .null, [], [])), (31, (.iadd, 32, 0, .null, [], [])), (32, (.iaload, 33, 0, .null, [], [])), (33, (.iastore, 34, 0, .null, [], [])), (34, (.aload_n 0, 35, 0, .null, [], [])), (35, (.getfield 43, 38, 0, .null, [], [(10, 18)])), (38, (.iload_n 3, 39, 0, .null, [], [])), (39, (.aload_n 0, 40, 0, .null, [], [])), (40, (.getfield 43, 43, 0, .null, [], [(10, 18)])), (43, (.iload_n 3, 44, 0, .null, [], [])), (44, (.iload_n 2, 45, 0, .null, [], [])), (45, (.iadd, 46, 0, .null, [], [])), (46, (.iaload, 47, 0, .null, [], [])), (47, (.iastore, 48, 0, .null, [], [])), (48, (.aload_n 0, 49, 0, .null, [], [])), (49, (.getfield 46, 52, 0, .null, [], [(10, 19)])), (52, (.iload_n 3, 53, 0, .null, [], [])), (53, (.aload_n 0, 54, 0, .null, [], [])), (54, (.getfield 46, 57, 0, .null, [], [(10, 19)])), (57, (.iload_n 3, 58, 0, .null, [], [])), (58, (.iload_n 2, 59, 0, .null, [], [])), (59, (.iadd, 60, 0, .null, [], [])), (60, (.iaload, 61, 0, .null, [], [])), (61, (.iastore, 62, 0, .null, [], [])), (62, (.aload_n 0, 63, 0, .null, [], [])), (63, (.getfield 49, 66, 0, .null, [], [(10, 20)])), (66, (.iload_n 3, 67, 0, .null, [], [])), (67, (.aload_n 0, 68, 0, .null, [], [])), (68, (.getfield 49, 71, 0, .null, [], [(10, 20)])), (71, (.iload_n 3, 72, 0, .null, [], [])), (72, (.iload_n 2, 73, 0, .null, [], [])), (73, (.iadd, 74, 0, .null, [], [])), (74, (.iaload, 75, 0, .null, [], [])), (75, (.iastore, 76, 0, .null, [], [])), (76, (.iinc 3 1, 79, 0, .int (1), [], [])), (79, (.goto (-67), 82, 12, .null, [], [])), (82, (.return_, 83, 0, .null, [], []))]
noncomputable abbrev jX12_cuts : List (Nat × sf_J sf_S) := []
abbrev wX12_cuts_12 {ρ : Type} (k : Int32 → Int32 → sf_S → Option ρ) : sf_M ρ := fun L st σ => sf_lda L 0 fun a0 => sf_eq a0 0 (sf_ldi L 2 fun x2 => sf_ldi L 3 fun x3 => sf_nil st (k x2 x3 σ))
theorem wX12_cuts_12_ok {ρ : Type} {Wt : Nat → sf_L → List Value → sf_S → Prop} {Post : ρ → Prop} (hm : sf_mono Wt) {k : Int32 → Int32 → sf_S → Option ρ} (h : ∀ (x2 : Int32) (x3 : Int32) (σ : sf_S) (u : ρ), k x2 x3 σ = some u → Post u → Wt 12 [(0, some (.ref 0)), (2, some (.int x2)), (3, some (.int x3))] [] σ) : sf_CK Wt Post 12 (wX12_cuts_12 k) := by
  intro L st σ u hf hp
  unfold wX12_cuts_12 at hf
  have hf0 := hf
  obtain ⟨a0, e0, hf1⟩ := sf_lda_inv hf0
  obtain ⟨rfl, hf2⟩ := sf_eq_inv hf1
  obtain ⟨x2, e2, hf3⟩ := sf_ldi_inv hf2
  obtain ⟨x3, e3, hf4⟩ := sf_ldi_inv hf3
  obtain ⟨rfl, hz⟩ := sf_nil_inv hf4
  exact hm _ [(0, some (.ref _)), (2, some (.int x2)), (3, some (.int x3))] _ _ _ (sf_le_ok (And.intro e0 (And.intro e2 (And.intro e3 trivial)))) (h _ _ _ _ hz hp)
noncomputable def dX12_cuts_12 : Nat → Int32 → Int32 → sf_S → Option sf_S
  | 0 => fun _ _ _ => none
  | n + 1 => fun x2 x3 σ =>
    if (σ 0 21) ≤ x3 then
      some σ
    else
      let v1 := (x3 + x2)
      if sf_in v1 40 then
        if sf_in x3 40 then
          let s2 := sf_up σ 11 x3.toNatClampNeg (σ 11 v1.toNatClampNeg)
          let v3 := (x3 + x2)
          if sf_in v3 40 then
            if sf_in x3 40 then
              let s4 := sf_up s2 12 x3.toNatClampNeg (s2 12 v3.toNatClampNeg)
              let v5 := (x3 + x2)
              if sf_in v5 40 then
                if sf_in x3 40 then
                  let s6 := sf_up s4 13 x3.toNatClampNeg (s4 13 v5.toNatClampNeg)
                  let v7 := (x3 + x2)
                  if sf_in v7 40 then
                    if sf_in x3 40 then
                      let s8 := sf_up s6 14 x3.toNatClampNeg (s6 14 v7.toNatClampNeg)
                      dX12_cuts_12 n x2 (x3 + (1 : Int32)) s8
                    else
                      none
                  else
                    none
                else
                  none
              else
                none
            else
              none
          else
            none
        else
          none
      else
        none
set_option maxRecDepth 100000 in
set_option maxHeartbeats 4000000 in
theorem rX12_cuts_12 {Wt : Nat → sf_L → List Value → sf_S → Prop} {Post : sf_S → Prop} (hs : sf_Snd Wt sf_layM sf_hV jX12_cuts tX12_cuts Post) (hm : sf_mono Wt) : ∀ n : Nat, sf_CK Wt Post 12 (wX12_cuts_12 (dX12_cuts_12 n)) := by
  intro n
  induction n with
  | zero => exact wX12_cuts_12_ok hm (fun x2 x3 σ u h _ => by simp [dX12_cuts_12] at h)
  | succ n ih =>
    refine wX12_cuts_12_ok hm ?_
    intro x2 x3 σ u h hp
    exact sf_run_ok hs (sf_sm_cons ih sf_sm_nil) 60 12 _ _ σ u h hp
noncomputable def dX12_cuts (x1 : Int32) (x2 : Int32) (σ : sf_S) : Option sf_S :=
  let s1 := sf_up σ 0 21 ((σ 0 21) - x2)
  dX12_cuts_12 sf_F x2 x1 s1
noncomputable abbrev gX12_cuts (av : List Value) (σ : sf_S) : Option sf_S := match av with
  | [.ref q, .int x1, .int x2] => (match sf_rv [0] q with | true => dX12_cuts x1 x2 σ | false => none)
  | _ => none
set_option maxRecDepth 100000 in
set_option maxHeartbeats 4000000 in
theorem rX12_cuts {Wt : Nat → sf_L → List Value → sf_S → Prop} {Post : sf_S → Prop} (hs : sf_Snd Wt sf_layM sf_hV jX12_cuts tX12_cuts Post) (hm : sf_mono Wt) : ∀ av σ u, gX12_cuts av σ = some u → Post u → (∀ ad, (lg_sl (av.map (sf_v ad))).length ≤ 4) ∧ Wt 0 (sf_ent 0 av) [] σ := by
  intro av σ u h hp
  unfold gX12_cuts at h
  split at h
  · rename_i q x1 x2
    split at h
    · rename_i hq
      have hq : q = 0 := by simpa using sf_rv_mem hq
      subst hq
      refine ⟨fun ad => Nat.le_of_ble_eq_true rfl, ?_⟩
      exact sf_run_ok hs (sf_sm_cons (rX12_cuts_12 hs hm sf_F) sf_sm_nil) 60 0 _ _ σ u h hp
    · cases h
  · cases h
theorem kX12_cuts (l : Launch) : sf_C l sf_layM yX12_cuts cX12_cuts 4 none (sf_rm 1 100) (fun av σ => (gX12_cuts av σ).map sf_vV) :=
  sf_met (tab := tX12_cuts) (J := jX12_cuts) (fl := sf_fl12) (cl := sf_cl12) (by decide +kernel) ⟨rfl, rfl⟩ sf_RH_V (by decide +kernel) sf_fl12_ok sf_cl12_ok
    (sf_JO_nil)
    (fun Wt Post hs hm => rX12_cuts hs hm)
-- ===== StreamFuserModel.becomes(IIII)V =====
abbrev tX12_becomes : List (Nat × sf_E) := [(0, (.aload_n 0, 1, 0, .null, [], [])), (1, (.getfield 40, 4, 0, .null, [], [(10, 17)])), (4, (.iload_n 1, 5, 0, .null, [], [])), (5, (.iload_n 2, 6, 0, .null, [], [])), (6, (.iastore, 7, 0, .null, [], [])), (7, (.aload_n 0, 8, 0, .null, [], [])), (8, (.getfield 43, 11, 0, .null, [], [(10, 18)])), (11, (.iload_n 1, 12, 0, .null, [], [])), (12, (.iconst (-1), 13, 0, .int (-1), [], [])), (13, (.iastore, 14, 0, .null, [], [])), (14, (.aload_n 0, 15, 0, .null, [], [])), (15, (.getfield 46, 18, 0, .null, [], [(10, 19)])), (18, (.iload_n 1, 19, 0, .null, [], [])), (19, (.iload_n 3, 20, 0, .null, [], [])), (20, (.iastore, 21, 0, .null, [], [])), (21, (.aload_n 0, 22, 0, .null, [], [])), (22, (.getfield 49, 25, 0, .null, [], [(10, 20)])), (25, (.iload_n 1, 26, 0, .null, [], [])), (26, (.iload 4, 28, 0, .null, [], [])), (28, (.iastore, 29, 0, .null, [], [])), (29, (.return_, 30, 0, .null, [], []))]
noncomputable abbrev jX12_becomes : List (Nat × sf_J sf_S) := []
noncomputable def dX12_becomes (x1 : Int32) (x2 : Int32) (x3 : Int32) (x4 : Int32) (σ : sf_S) : Option sf_S :=
  if sf_in x1 40 then
    let s1 := sf_up σ 11 x1.toNatClampNeg x2
    if sf_in x1 40 then
      let s2 := sf_up s1 12 x1.toNatClampNeg (-1 : Int32)
      if sf_in x1 40 then
        let s3 := sf_up s2 13 x1.toNatClampNeg x3
        if sf_in x1 40 then
          let s4 := sf_up s3 14 x1.toNatClampNeg x4
          some s4
        else
          none
      else
        none
    else
      none
  else
    none
noncomputable abbrev gX12_becomes (av : List Value) (σ : sf_S) : Option sf_S := match av with
  | [.ref q, .int x1, .int x2, .int x3, .int x4] => (match sf_rv [0] q with | true => dX12_becomes x1 x2 x3 x4 σ | false => none)
  | _ => none
set_option maxRecDepth 100000 in
set_option maxHeartbeats 4000000 in
theorem rX12_becomes {Wt : Nat → sf_L → List Value → sf_S → Prop} {Post : sf_S → Prop} (hs : sf_Snd Wt sf_layM sf_hV jX12_becomes tX12_becomes Post) (hm : sf_mono Wt) : ∀ av σ u, gX12_becomes av σ = some u → Post u → (∀ ad, (lg_sl (av.map (sf_v ad))).length ≤ 5) ∧ Wt 0 (sf_ent 0 av) [] σ := by
  intro av σ u h hp
  unfold gX12_becomes at h
  split at h
  · rename_i q x1 x2 x3 x4
    split at h
    · rename_i hq
      have hq : q = 0 := by simpa using sf_rv_mem hq
      subst hq
      refine ⟨fun ad => Nat.le_of_ble_eq_true rfl, ?_⟩
      exact sf_run_ok hs sf_sm_nil 26 0 _ _ σ u h hp
    · cases h
  · cases h
theorem kX12_becomes (l : Launch) : sf_C l sf_layM yX12_becomes cX12_becomes 5 none (sf_rm 1 100) (fun av σ => (gX12_becomes av σ).map sf_vV) :=
  sf_met (tab := tX12_becomes) (J := jX12_becomes) (fl := sf_fl12) (cl := sf_cl12) (by decide +kernel) ⟨rfl, rfl⟩ sf_RH_V (by decide +kernel) sf_fl12_ok sf_cl12_ok
    (sf_JO_nil)
    (fun Wt Post hs hm => rX12_becomes hs hm)
-- ===== StreamFuserModel.nil(I)V =====
abbrev tX12_nil : List (Nat × sf_E) := [(0, (.aload_n 0, 1, 0, .null, [], [])), (1, (.getfield 52, 4, 0, .null, [], [(10, 22)])), (4, (.iload_n 1, 5, 0, .null, [], [])), (5, (.iaload, 6, 0, .null, [], [])), (6, (.istore_n 2, 7, 0, .null, [], [])), (7, (.aload_n 0, 8, 0, .null, [], [])), (8, (.iload_n 1, 9, 0, .null, [], [])), (9, (.bipush 114, 11, 0, .int (114), [], [])), (11, (.iconst 0, 12, 0, .int (0), [], [])), (12, (.iconst 0, 13, 0, .int (0), [], [])), (13, (.invokevirtual 253, 16, 0, .null, [], [])), (16, (.aload_n 0, 17, 0, .null, [], [])), (17, (.iload_n 1, 18, 0, .null, [], [])), (18, (.iconst 1, 19, 0, .int (1), [], [])), (19, (.iadd, 20, 0, .null, [], [])), (20, (.iload_n 2, 21, 0, .null, [], [])), (21, (.iconst 1, 22, 0, .int (1), [], [])), (22, (.isub, 23, 0, .null, [], [])), (23, (.invokevirtual 257, 26, 0, .null, [], [])), (26, (.return_, 27, 0, .null, [], []))]
noncomputable abbrev jX12_nil : List (Nat × sf_J sf_S) := [(13, sf_jV sf_layM [10] 5 gX12_becomes), (23, sf_jV sf_layM [10] 3 gX12_cuts)]
noncomputable def dX12_nil (x1 : Int32) (σ : sf_S) : Option sf_S :=
  if sf_in x1 40 then
    let v1 := (σ 15 x1.toNatClampNeg)
    (dX12_becomes x1 (114 : Int32) (0 : Int32) (0 : Int32) σ).bind fun u2 =>
    (dX12_cuts (x1 + (1 : Int32)) (v1 - (1 : Int32)) u2).bind fun u3 =>
    some u3
  else
    none
noncomputable abbrev gX12_nil (av : List Value) (σ : sf_S) : Option sf_S := match av with
  | [.ref q, .int x1] => (match sf_rv [0] q with | true => dX12_nil x1 σ | false => none)
  | _ => none
set_option maxRecDepth 100000 in
set_option maxHeartbeats 4000000 in
theorem rX12_nil {Wt : Nat → sf_L → List Value → sf_S → Prop} {Post : sf_S → Prop} (hs : sf_Snd Wt sf_layM sf_hV jX12_nil tX12_nil Post) (hm : sf_mono Wt) : ∀ av σ u, gX12_nil av σ = some u → Post u → (∀ ad, (lg_sl (av.map (sf_v ad))).length ≤ 3) ∧ Wt 0 (sf_ent 0 av) [] σ := by
  intro av σ u h hp
  unfold gX12_nil at h
  split at h
  · rename_i q x1
    split at h
    · rename_i hq
      have hq : q = 0 := by simpa using sf_rv_mem hq
      subst hq
      refine ⟨fun ad => Nat.le_of_ble_eq_true rfl, ?_⟩
      exact sf_run_ok hs sf_sm_nil 25 0 _ _ σ u h hp
    · cases h
  · cases h
theorem kX12_nil (l : Launch) : sf_C l sf_layM yX12_nil cX12_nil 3 none (sf_rm 2 124) (fun av σ => (gX12_nil av σ).map sf_vV) :=
  sf_met (tab := tX12_nil) (J := jX12_nil) (fl := sf_fl12) (cl := sf_cl12) (by decide +kernel) ⟨rfl, rfl⟩ sf_RH_V (by decide +kernel) sf_fl12_ok sf_cl12_ok
    (sf_JO_cons (sf_je_V (n := 5) (cs := [10]) (tv := sf_vV) (kX12_becomes l) mwX12_becomes (by decide +kernel : decode cX12_nil 13 = .ok (.invokevirtual 253, 3)) wt_1534 wt_1536 wt_105 (by decide +kernel) (by decide) (by decide) (List.forall_mem_cons.mpr ⟨⟨_, _, rfl⟩, fun _ h => absurd h List.not_mem_nil⟩) (sf_RM_of (by omega) (by omega))) (sf_JO_cons (sf_je_V (n := 3) (cs := [10]) (tv := sf_vV) (kX12_cuts l) mwX12_cuts (by decide +kernel : decode cX12_nil 23 = .ok (.invokevirtual 257, 3)) wt_1541 wt_1543 wt_106 (by decide +kernel) (by decide) (by decide) (List.forall_mem_cons.mpr ⟨⟨_, _, rfl⟩, fun _ h => absurd h List.not_mem_nil⟩) (sf_RM_of (by omega) (by omega))) (sf_JO_nil)))
    (fun Wt Post hs hm => rX12_nil hs hm)
-- ===== StreamFuserModel.turns(I)V =====
abbrev tX12_turns : List (Nat × sf_E) := [(0, (.aload_n 0, 1, 0, .null, [], [])), (1, (.getfield 40, 4, 0, .null, [], [(10, 17)])), (4, (.iload_n 1, 5, 0, .null, [], [])), (5, (.iaload, 6, 0, .null, [], [])), (6, (.istore_n 2, 7, 0, .null, [], [])), (7, (.aload_n 0, 8, 0, .null, [], [])), (8, (.getfield 46, 11, 0, .null, [], [(10, 19)])), (11, (.iload_n 1, 12, 0, .null, [], [])), (12, (.iaload, 13, 0, .null, [], [])), (13, (.istore_n 3, 14, 0, .null, [], [])), (14, (.aload_n 0, 15, 0, .null, [], [])), (15, (.getfield 43, 18, 0, .null, [], [(10, 18)])), (18, (.iload_n 1, 19, 0, .null, [], [])), (19, (.iaload, 20, 0, .null, [], [])), (20, (.istore 4, 22, 0, .null, [], [])), (22, (.aload_n 0, 23, 0, .null, [], [])), (23, (.iload_n 1, 24, 0, .null, [], [])), (24, (.aload_n 0, 25, 0, .null, [], [])), (25, (.getfield 40, 28, 0, .null, [], [(10, 17)])), (28, (.iload_n 1, 29, 0, .null, [], [])), (29, (.iconst 1, 30, 0, .int (1), [], [])), (30, (.iadd, 31, 0, .null, [], [])), (31, (.iaload, 32, 0, .null, [], [])), (32, (.aload_n 0, 33, 0, .null, [], [])), (33, (.getfield 46, 36, 0, .null, [], [(10, 19)])), (36, (.iload_n 1, 37, 0, .null, [], [])), (37, (.iconst 1, 38, 0, .int (1), [], [])), (38, (.iadd, 39, 0, .null, [], [])), (39, (.iaload, 40, 0, .null, [], [])), (40, (.iconst 0, 41, 0, .int (0), [], [])), (41, (.invokevirtual 253, 44, 0, .null, [], [])), (44, (.aload_n 0, 45, 0, .null, [], [])), (45, (.getfield 43, 48, 0, .null, [], [(10, 18)])), (48, (.iload_n 1, 49, 0, .null, [], [])), (49, (.aload_n 0, 50, 0, .null, [], [])), (50, (.getfield 43, 53, 0, .null, [], [(10, 18)])), (53, (.iload_n 1, 54, 0, .null, [], [])), (54, (.iconst 1, 55, 0, .int (1), [], [])), (55, (.iadd, 56, 0, .null, [], [])), (56, (.iaload, 57, 0, .null, [], [])), (57, (.iastore, 58, 0, .null, [], [])), (58, (.aload_n 0, 59, 0, .null, [], [])), (59, (.iload_n 1, 60, 0, .null, [], [])), (60, (.iconst 1, 61, 0, .int (1), [], [])), (61, (.iadd, 62, 0, .null, [], [])), (62, (.iload_n 2, 63, 0, .null, [], [])), (63, (.iload_n 3, 64, 0, .null, [], [])), (64, (.iconst 0, 65, 0, .int (0), [], [])), (65, (.invokevirtual 253, 68, 0, .null, [], [])), (68, (.aload_n 0, 69, 0, .null, [], [])), (69, (.getfield 43, 72, 0, .null, [], [(10, 18)])), (72, (.iload_n 1, 73, 0, .null, [], [])), (73, (.iconst 1, 74, 0, .int (1), [], [])), (74, (.iadd, 75, 0, .null, [], [])), (75, (.iload 4, 77, 0, .null, [], [])), (77, (.iastore, 78, 0, .null, [], [])), (78, (.return_, 79, 0, .null, [], []))]
noncomputable abbrev jX12_turns : List (Nat × sf_J sf_S) := [(41, sf_jV sf_layM [10] 5 gX12_becomes), (65, sf_jV sf_layM [10] 5 gX12_becomes)]
noncomputable def dX12_turns (x1 : Int32) (σ : sf_S) : Option sf_S :=
  if sf_in x1 40 then
    let v1 := (σ 11 x1.toNatClampNeg)
    if sf_in x1 40 then
      let v2 := (σ 13 x1.toNatClampNeg)
      if sf_in x1 40 then
        let v3 := (σ 12 x1.toNatClampNeg)
        if sf_in (x1 + (1 : Int32)) 40 then
          if sf_in (x1 + (1 : Int32)) 40 then
            (dX12_becomes x1 (σ 11 ((x1 + (1 : Int32))).toNatClampNeg) (σ 13 ((x1 + (1 : Int32))).toNatClampNeg) (0 : Int32) σ).bind fun u4 =>
            if sf_in (x1 + (1 : Int32)) 40 then
              if sf_in x1 40 then
                let s5 := sf_up u4 12 x1.toNatClampNeg (u4 12 ((x1 + (1 : Int32))).toNatClampNeg)
                (dX12_becomes (x1 + (1 : Int32)) v1 v2 (0 : Int32) s5).bind fun u6 =>
                if sf_in (x1 + (1 : Int32)) 40 then
                  let s7 := sf_up u6 12 ((x1 + (1 : Int32))).toNatClampNeg v3
                  some s7
                else
                  none
              else
                none
            else
              none
          else
            none
        else
          none
      else
        none
    else
      none
  else
    none
noncomputable abbrev gX12_turns (av : List Value) (σ : sf_S) : Option sf_S := match av with
  | [.ref q, .int x1] => (match sf_rv [0] q with | true => dX12_turns x1 σ | false => none)
  | _ => none
set_option maxRecDepth 100000 in
set_option maxHeartbeats 4000000 in
theorem rX12_turns {Wt : Nat → sf_L → List Value → sf_S → Prop} {Post : sf_S → Prop} (hs : sf_Snd Wt sf_layM sf_hV jX12_turns tX12_turns Post) (hm : sf_mono Wt) : ∀ av σ u, gX12_turns av σ = some u → Post u → (∀ ad, (lg_sl (av.map (sf_v ad))).length ≤ 5) ∧ Wt 0 (sf_ent 0 av) [] σ := by
  intro av σ u h hp
  unfold gX12_turns at h
  split at h
  · rename_i q x1
    split at h
    · rename_i hq
      have hq : q = 0 := by simpa using sf_rv_mem hq
      subst hq
      refine ⟨fun ad => Nat.le_of_ble_eq_true rfl, ?_⟩
      exact sf_run_ok hs sf_sm_nil 62 0 _ _ σ u h hp
    · cases h
  · cases h
theorem kX12_turns (l : Launch) : sf_C l sf_layM yX12_turns cX12_turns 5 none (sf_rm 2 124) (fun av σ => (gX12_turns av σ).map sf_vV) :=
  sf_met (tab := tX12_turns) (J := jX12_turns) (fl := sf_fl12) (cl := sf_cl12) (by decide +kernel) ⟨rfl, rfl⟩ sf_RH_V (by decide +kernel) sf_fl12_ok sf_cl12_ok
    (sf_JO_cons (sf_je_V (n := 5) (cs := [10]) (tv := sf_vV) (kX12_becomes l) mwX12_becomes (by decide +kernel : decode cX12_turns 41 = .ok (.invokevirtual 253, 3)) wt_1534 wt_1536 wt_105 (by decide +kernel) (by decide) (by decide) (List.forall_mem_cons.mpr ⟨⟨_, _, rfl⟩, fun _ h => absurd h List.not_mem_nil⟩) (sf_RM_of (by omega) (by omega))) (sf_JO_cons (sf_je_V (n := 5) (cs := [10]) (tv := sf_vV) (kX12_becomes l) mwX12_becomes (by decide +kernel : decode cX12_turns 65 = .ok (.invokevirtual 253, 3)) wt_1534 wt_1536 wt_105 (by decide +kernel) (by decide) (by decide) (List.forall_mem_cons.mpr ⟨⟨_, _, rfl⟩, fun _ h => absurd h List.not_mem_nil⟩) (sf_RM_of (by omega) (by omega))) (sf_JO_nil)))
    (fun Wt Post hs hm => rX12_turns hs hm)
-- ===== StreamFuserModel.usesMore(III)V =====
abbrev tX12_usesMore : List (Nat × sf_E) := [(0, (.iload_n 2, 1, 0, .null, [], [])), (1, (.tableswitch 233 6 12 #[43, 90, 137, 233, 182, 233, 191], 44, 234, .null, [((6), 44), ((7), 91), ((8), 138), ((9), 234), ((10), 183), ((11), 234), ((12), 192)], [])), (44, (.aload_n 0, 45, 0, .null, [], [])), (45, (.iload_n 1, 46, 0, .null, [], [])), (46, (.bipush 114, 48, 0, .int (114), [], [])), (48, (.aload_n 0, 49, 0, .null, [], [])), (49, (.getfield 46, 52, 0, .null, [], [(10, 19)])), (52, (.iload_n 1, 53, 0, .null, [], [])), (53, (.iconst 1, 54, 0, .int (1), [], [])), (54, (.iadd, 55, 0, .null, [], [])), (55, (.iaload, 56, 0, .null, [], [])), (56, (.aload_n 0, 57, 0, .null, [], [])), (57, (.getfield 49, 60, 0, .null, [], [(10, 20)])), (60, (.iload_n 1, 61, 0, .null, [], [])), (61, (.iconst 1, 62, 0, .int (1), [], [])), (62, (.iadd, 63, 0, .null, [], [])), (63, (.iaload, 64, 0, .null, [], [])), (64, (.aload_n 0, 65, 0, .null, [], [])), (65, (.getfield 46, 68, 0, .null, [], [(10, 19)])), (68, (.iload_n 1, 69, 0, .null, [], [])), (69, (.iconst 1, 70, 0, .int (1), [], [])), (70, (.iadd, 71, 0, .null, [], [])), (71, (.iaload, 72, 0, .null, [], [])), (72, (.iload_n 3, 73, 0, .null, [], [])), (73, (.iadd, 74, 0, .null, [], [])), (74, (.invokestatic 260, 77, 0, .null, [], [])), (77, (.invokevirtual 253, 80, 0, .null, [], [])), (80, (.aload_n 0, 81, 0, .null, [], [])), (81, (.iload_n 1, 82, 0, .null, [], [])), (82, (.iconst 1, 83, 0, .int (1), [], [])), (83, (.iadd, 84, 0, .null, [], [])), (84, (.iconst 1, 85, 0, .int (1), [], [])), (85, (.invokevirtual 257, 88, 0, .null, [], [])), (88, (.goto 151, 91, 239, .null, [], [])), (91, (.aload_n 0, 92, 0, .null, [], [])), (92, (.iload_n 1, 93, 0, .null, [], [])), (93, (.bipush 114, 95, 0, .int (114), [], [])), (95, (.aload_n 0, 96, 0, .null, [], [])), (96, (.getfield 49, 99, 0, .null, [], [(10, 20)])), (99, (.iload_n 1, 100, 0, .null, [], [])), (100, (.iconst 1, 101, 0, .int (1), [], [])), (101, (.iadd, 102, 0, .null, [], [])), (102, (.iaload, 103, 0, .null, [], [])), (103, (.aload_n 0, 104, 0, .null, [], [])), (104, (.getfield 46, 107, 0, .null, [], [(10, 19)])), (107, (.iload_n 1, 108, 0, .null, [], [])), (108, (.iconst 1, 109, 0, .int (1), [], [])), (109, (.iadd, 110, 0, .null, [], [])), (110, (.iaload, 111, 0, .null, [], [])), (111, (.iload_n 3, 112, 0, .null, [], [])), (112, (.iadd, 113, 0, .null, [], [])), (113, (.invokestatic 260, 116, 0, .null, [], [])), (116, (.aload_n 0, 117, 0, .null, [], [])), (117, (.getfield 49, 120, 0, .null, [], [(10, 20)])), (120, (.iload_n 1, 121, 0, .null, [], [])), (121, (.iconst 1, 122, 0, .int (1), [], [])), (122, (.iadd, 123, 0, .null, [], [])), (123, (.iaload, 124, 0, .null, [], [])), (124, (.invokevirtual 253, 127, 0, .null, [], [])), (127, (.aload_n 0, 128, 0, .null, [], [])), (128, (.iload_n 1, 129, 0, .null, [], [])), (129, (.iconst 1, 130, 0, .int (1), [], [])), (130, (.iadd, 131, 0, .null, [], [])), (131, (.iconst 1, 132, 0, .int (1), [], [])), (132, (.invokevirtual 257, 135, 0, .null, [], [])), (135, (.goto 104, 138, 239, .null, [], [])), (138, (.aload_n 0, 139, 0, .null, [], [])), (139, (.iload_n 1, 140, 0, .null, [], [])), (140, (.bipush 105, 142, 0, .int (105), [], [])), (142, (.aload_n 0, 143, 0, .null, [], [])), (143, (.getfield 46, 146, 0, .null, [], [(10, 19)])), (146, (.iload_n 1, 147, 0, .null, [], [])), (147, (.iconst 1, 148, 0, .int (1), [], [])), (148, (.iadd, 149, 0, .null, [], [])), (149, (.iaload, 150, 0, .null, [], [])), (150, (.iload_n 3, 151, 0, .null, [], [])), (151, (.aload_n 0, 152, 0, .null, [], [])), (152, (.getfield 49, 155, 0, .null, [], [(10, 20)])), (155, (.iload_n 1, 156, 0, .null, [], [])), (156, (.iconst 1, 157, 0, .int (1), [], [])), (157, (.iadd, 158, 0, .null, [], [])), (158, (.iaload, 159, 0, .null, [], [])), (159, (.imul, 160, 0, .null, [], [])), (160, (.iadd, 161, 0, .null, [], [])), (161, (.aload_n 0, 162, 0, .null, [], [])), (162, (.getfield 49, 165, 0, .null, [], [(10, 20)])), (165, (.iload_n 1, 166, 0, .null, [], [])), (166, (.iconst 1, 167, 0, .int (1), [], [])), (167, (.iadd, 168, 0, .null, [], [])), (168, (.iaload, 169, 0, .null, [], [])), (169, (.invokevirtual 253, 172, 0, .null, [], [])), (172, (.aload_n 0, 173, 0, .null, [], [])), (173, (.iload_n 1, 174, 0, .null, [], [])), (174, (.iconst 1, 175, 0, .int (1), [], [])), (175, (.iadd, 176, 0, .null, [], [])), (176, (.iconst 1, 177, 0, .int (1), [], [])), (177, (.invokevirtual 257, 180, 0, .null, [], [])), (180, (.goto 59, 183, 239, .null, [], [])), (183, (.aload_n 0, 184, 0, .null, [], [])), (184, (.iload_n 1, 185, 0, .null, [], [])), (185, (.iconst 1, 186, 0, .int (1), [], [])), (186, (.invokevirtual 257, 189, 0, .null, [], [])), (189, (.goto 50, 192, 239, .null, [], [])), (192, (.aload_n 0, 193, 0, .null, [], [])), (193, (.aload_n 0, 194, 0, .null, [], [])), (194, (.getfield 55, 197, 0, .null, [], [(10, 23)])), (197, (.iload_n 1, 198, 0, .null, [], [])), (198, (.iaload, 199, 0, .null, [], [])), (199, (.invokevirtual 247, 202, 0, .null, [], [])), (202, (.ifCond .eq 12, 205, 214, .null, [], [])), (205, (.aload_n 0, 206, 0, .null, [], [])), (206, (.iload_n 1, 207, 0, .null, [], [])), (207, (.iconst 2, 208, 0, .int (2), [], [])), (208, (.invokevirtual 257, 211, 0, .null, [], [])), (211, (.goto 28, 214, 239, .null, [], [])), (214, (.aload_n 0, 215, 0, .null, [], [])), (215, (.aload_n 0, 216, 0, .null, [], [])), (216, (.getfield 58, 219, 0, .null, [], [(10, 24)])), (219, (.iload_n 1, 220, 0, .null, [], [])), (220, (.iaload, 221, 0, .null, [], [])), (221, (.iconst 1, 222, 0, .int (1), [], [])), (222, (.invokevirtual 257, 225, 0, .null, [], [])), (225, (.aload_n 0, 226, 0, .null, [], [])), (226, (.iload_n 1, 227, 0, .null, [], [])), (227, (.iconst 1, 228, 0, .int (1), [], [])), (228, (.invokevirtual 257, 231, 0, .null, [], [])), (231, (.goto 8, 234, 239, .null, [], [])), (234, (.aload_n 0, 235, 0, .null, [], [])), (235, (.iload_n 1, 236, 0, .null, [], [])), (236, (.invokevirtual 273, 239, 0, .null, [], [])), (239, (.return_, 240, 0, .null, [], []))]
noncomputable abbrev jX12_usesMore : List (Nat × sf_J sf_S) := [(74, sf_jI sf_layM [] 2 gX12_lesser), (77, sf_jV sf_layM [10] 5 gX12_becomes), (85, sf_jV sf_layM [10] 3 gX12_cuts), (113, sf_jI sf_layM [] 2 gX12_lesser), (124, sf_jV sf_layM [10] 5 gX12_becomes), (132, sf_jV sf_layM [10] 3 gX12_cuts), (169, sf_jV sf_layM [10] 5 gX12_becomes), (177, sf_jV sf_layM [10] 3 gX12_cuts), (186, sf_jV sf_layM [10] 3 gX12_cuts), (199, sf_jI sf_layM [10] 2 gX12_isNil), (208, sf_jV sf_layM [10] 3 gX12_cuts), (222, sf_jV sf_layM [10] 3 gX12_cuts), (228, sf_jV sf_layM [10] 3 gX12_cuts), (236, sf_jV sf_layM [10] 2 gX12_nil)]
noncomputable def dX12_usesMore (x1 : Int32) (x2 : Int32) (x3 : Int32) (σ : sf_S) : Option sf_S :=
  if x2 = (6 : Int32) then
    if sf_in (x1 + (1 : Int32)) 40 then
      if sf_in (x1 + (1 : Int32)) 40 then
        if sf_in (x1 + (1 : Int32)) 40 then
          (dX12_lesser (σ 14 ((x1 + (1 : Int32))).toNatClampNeg) ((σ 13 ((x1 + (1 : Int32))).toNatClampNeg) + x3) σ).bind fun u1 =>
          (dX12_becomes x1 (114 : Int32) (σ 13 ((x1 + (1 : Int32))).toNatClampNeg) u1.1 u1.2).bind fun u2 =>
          (dX12_cuts (x1 + (1 : Int32)) (1 : Int32) u2).bind fun u3 =>
          some u3
        else
          none
      else
        none
    else
      none
  else
  if x2 = (7 : Int32) then
    if sf_in (x1 + (1 : Int32)) 40 then
      if sf_in (x1 + (1 : Int32)) 40 then
        (dX12_lesser (σ 14 ((x1 + (1 : Int32))).toNatClampNeg) ((σ 13 ((x1 + (1 : Int32))).toNatClampNeg) + x3) σ).bind fun u4 =>
        if sf_in (x1 + (1 : Int32)) 40 then
          (dX12_becomes x1 (114 : Int32) u4.1 (u4.2 14 ((x1 + (1 : Int32))).toNatClampNeg) u4.2).bind fun u5 =>
          (dX12_cuts (x1 + (1 : Int32)) (1 : Int32) u5).bind fun u6 =>
          some u6
        else
          none
      else
        none
    else
      none
  else
  if x2 = (8 : Int32) then
    if sf_in (x1 + (1 : Int32)) 40 then
      if sf_in (x1 + (1 : Int32)) 40 then
        if sf_in (x1 + (1 : Int32)) 40 then
          (dX12_becomes x1 (105 : Int32) ((σ 13 ((x1 + (1 : Int32))).toNatClampNeg) + (x3 * (σ 14 ((x1 + (1 : Int32))).toNatClampNeg))) (σ 14 ((x1 + (1 : Int32))).toNatClampNeg) σ).bind fun u7 =>
          (dX12_cuts (x1 + (1 : Int32)) (1 : Int32) u7).bind fun u8 =>
          some u8
        else
          none
      else
        none
    else
      none
  else
  if x2 = (9 : Int32) then
    (dX12_nil x1 σ).bind fun u9 =>
    some u9
  else
  if x2 = (10 : Int32) then
    (dX12_cuts x1 (1 : Int32) σ).bind fun u10 =>
    some u10
  else
  if x2 = (11 : Int32) then
    (dX12_nil x1 σ).bind fun u11 =>
    some u11
  else
  if x2 = (12 : Int32) then
    if sf_in x1 40 then
      (dX12_isNil (σ 16 x1.toNatClampNeg) σ).bind fun u12 =>
      if u12.1 = 0 then
        if sf_in x1 40 then
          (dX12_cuts (u12.2 17 x1.toNatClampNeg) (1 : Int32) u12.2).bind fun u13 =>
          (dX12_cuts x1 (1 : Int32) u13).bind fun u14 =>
          some u14
        else
          none
      else
        (dX12_cuts x1 (2 : Int32) u12.2).bind fun u15 =>
        some u15
    else
      none
  else
    (dX12_nil x1 σ).bind fun u16 =>
    some u16
noncomputable abbrev gX12_usesMore (av : List Value) (σ : sf_S) : Option sf_S := match av with
  | [.ref q, .int x1, .int x2, .int x3] => (match sf_rv [0] q with | true => dX12_usesMore x1 x2 x3 σ | false => none)
  | _ => none
set_option maxRecDepth 100000 in
set_option maxHeartbeats 4000000 in
theorem rX12_usesMore {Wt : Nat → sf_L → List Value → sf_S → Prop} {Post : sf_S → Prop} (hs : sf_Snd Wt sf_layM sf_hV jX12_usesMore tX12_usesMore Post) (hm : sf_mono Wt) : ∀ av σ u, gX12_usesMore av σ = some u → Post u → (∀ ad, (lg_sl (av.map (sf_v ad))).length ≤ 4) ∧ Wt 0 (sf_ent 0 av) [] σ := by
  intro av σ u h hp
  unfold gX12_usesMore at h
  split at h
  · rename_i q x1 x2 x3
    split at h
    · rename_i hq
      have hq : q = 0 := by simpa using sf_rv_mem hq
      subst hq
      refine ⟨fun ad => Nat.le_of_ble_eq_true rfl, ?_⟩
      exact sf_run_ok hs sf_sm_nil 136 0 _ _ σ u h hp
    · cases h
  · cases h
theorem kX12_usesMore (l : Launch) : sf_C l sf_layM yX12_usesMore cX12_usesMore 4 none (sf_rm 3 146) (fun av σ => (gX12_usesMore av σ).map sf_vV) :=
  sf_met (tab := tX12_usesMore) (J := jX12_usesMore) (fl := sf_fl12) (cl := sf_cl12) (by decide +kernel) ⟨rfl, rfl⟩ sf_RH_V (by decide +kernel) sf_fl12_ok sf_cl12_ok
    (sf_JO_cons (sf_je_S (n := 2) (tv := sf_vI) (kX12_lesser l) mwX12_lesser (by decide +kernel : decode cX12_usesMore 74 = .ok (.invokestatic 260, 3)) wt_1538 wt_1539 (by decide +kernel) (sf_RM_of (by omega) (by omega))) (sf_JO_cons (sf_je_V (n := 5) (cs := [10]) (tv := sf_vV) (kX12_becomes l) mwX12_becomes (by decide +kernel : decode cX12_usesMore 77 = .ok (.invokevirtual 253, 3)) wt_1534 wt_1536 wt_105 (by decide +kernel) (by decide) (by decide) (List.forall_mem_cons.mpr ⟨⟨_, _, rfl⟩, fun _ h => absurd h List.not_mem_nil⟩) (sf_RM_of (by omega) (by omega))) (sf_JO_cons (sf_je_V (n := 3) (cs := [10]) (tv := sf_vV) (kX12_cuts l) mwX12_cuts (by decide +kernel : decode cX12_usesMore 85 = .ok (.invokevirtual 257, 3)) wt_1541 wt_1543 wt_106 (by decide +kernel) (by decide) (by decide) (List.forall_mem_cons.mpr ⟨⟨_, _, rfl⟩, fun _ h => absurd h List.not_mem_nil⟩) (sf_RM_of (by omega) (by omega))) (sf_JO_cons (sf_je_S (n := 2) (tv := sf_vI) (kX12_lesser l) mwX12_lesser (by decide +kernel : decode cX12_usesMore 113 = .ok (.invokestatic 260, 3)) wt_1538 wt_1539 (by decide +kernel) (sf_RM_of (by omega) (by omega))) (sf_JO_cons (sf_je_V (n := 5) (cs := [10]) (tv := sf_vV) (kX12_becomes l) mwX12_becomes (by decide +kernel : decode cX12_usesMore 124 = .ok (.invokevirtual 253, 3)) wt_1534 wt_1536 wt_105 (by decide +kernel) (by decide) (by decide) (List.forall_mem_cons.mpr ⟨⟨_, _, rfl⟩, fun _ h => absurd h List.not_mem_nil⟩) (sf_RM_of (by omega) (by omega))) (sf_JO_cons (sf_je_V (n := 3) (cs := [10]) (tv := sf_vV) (kX12_cuts l) mwX12_cuts (by decide +kernel : decode cX12_usesMore 132 = .ok (.invokevirtual 257, 3)) wt_1541 wt_1543 wt_106 (by decide +kernel) (by decide) (by decide) (List.forall_mem_cons.mpr ⟨⟨_, _, rfl⟩, fun _ h => absurd h List.not_mem_nil⟩) (sf_RM_of (by omega) (by omega))) (sf_JO_cons (sf_je_V (n := 5) (cs := [10]) (tv := sf_vV) (kX12_becomes l) mwX12_becomes (by decide +kernel : decode cX12_usesMore 169 = .ok (.invokevirtual 253, 3)) wt_1534 wt_1536 wt_105 (by decide +kernel) (by decide) (by decide) (List.forall_mem_cons.mpr ⟨⟨_, _, rfl⟩, fun _ h => absurd h List.not_mem_nil⟩) (sf_RM_of (by omega) (by omega))) (sf_JO_cons (sf_je_V (n := 3) (cs := [10]) (tv := sf_vV) (kX12_cuts l) mwX12_cuts (by decide +kernel : decode cX12_usesMore 177 = .ok (.invokevirtual 257, 3)) wt_1541 wt_1543 wt_106 (by decide +kernel) (by decide) (by decide) (List.forall_mem_cons.mpr ⟨⟨_, _, rfl⟩, fun _ h => absurd h List.not_mem_nil⟩) (sf_RM_of (by omega) (by omega))) (sf_JO_cons (sf_je_V (n := 3) (cs := [10]) (tv := sf_vV) (kX12_cuts l) mwX12_cuts (by decide +kernel : decode cX12_usesMore 186 = .ok (.invokevirtual 257, 3)) wt_1541 wt_1543 wt_106 (by decide +kernel) (by decide) (by decide) (List.forall_mem_cons.mpr ⟨⟨_, _, rfl⟩, fun _ h => absurd h List.not_mem_nil⟩) (sf_RM_of (by omega) (by omega))) (sf_JO_cons (sf_je_V (n := 2) (cs := [10]) (tv := sf_vI) (kX12_isNil l) mwX12_isNil (by decide +kernel : decode cX12_usesMore 199 = .ok (.invokevirtual 247, 3)) wt_1519 wt_1521 wt_102 (by decide +kernel) (by decide) (by decide) (List.forall_mem_cons.mpr ⟨⟨_, _, rfl⟩, fun _ h => absurd h List.not_mem_nil⟩) (sf_RM_of (by omega) (by omega))) (sf_JO_cons (sf_je_V (n := 3) (cs := [10]) (tv := sf_vV) (kX12_cuts l) mwX12_cuts (by decide +kernel : decode cX12_usesMore 208 = .ok (.invokevirtual 257, 3)) wt_1541 wt_1543 wt_106 (by decide +kernel) (by decide) (by decide) (List.forall_mem_cons.mpr ⟨⟨_, _, rfl⟩, fun _ h => absurd h List.not_mem_nil⟩) (sf_RM_of (by omega) (by omega))) (sf_JO_cons (sf_je_V (n := 3) (cs := [10]) (tv := sf_vV) (kX12_cuts l) mwX12_cuts (by decide +kernel : decode cX12_usesMore 222 = .ok (.invokevirtual 257, 3)) wt_1541 wt_1543 wt_106 (by decide +kernel) (by decide) (by decide) (List.forall_mem_cons.mpr ⟨⟨_, _, rfl⟩, fun _ h => absurd h List.not_mem_nil⟩) (sf_RM_of (by omega) (by omega))) (sf_JO_cons (sf_je_V (n := 3) (cs := [10]) (tv := sf_vV) (kX12_cuts l) mwX12_cuts (by decide +kernel : decode cX12_usesMore 228 = .ok (.invokevirtual 257, 3)) wt_1541 wt_1543 wt_106 (by decide +kernel) (by decide) (by decide) (List.forall_mem_cons.mpr ⟨⟨_, _, rfl⟩, fun _ h => absurd h List.not_mem_nil⟩) (sf_RM_of (by omega) (by omega))) (sf_JO_cons (sf_je_V (n := 2) (cs := [10]) (tv := sf_vV) (kX12_nil l) mwX12_nil (by decide +kernel : decode cX12_usesMore 236 = .ok (.invokevirtual 273, 3)) wt_1556 wt_1558 wt_109 (by decide +kernel) (by decide) (by decide) (List.forall_mem_cons.mpr ⟨⟨_, _, rfl⟩, fun _ h => absurd h List.not_mem_nil⟩) (sf_RM_of (by omega) (by omega))) (sf_JO_nil)))))))))))))))
    (fun Wt Post hs hm => rX12_usesMore hs hm)
-- ===== StreamFuserModel.uses(II)V =====
abbrev tX12_uses : List (Nat × sf_E) := [(0, (.aload_n 0, 1, 0, .null, [], [])), (1, (.getfield 46, 4, 0, .null, [], [(10, 19)])), (4, (.iload_n 1, 5, 0, .null, [], [])), (5, (.iaload, 6, 0, .null, [], [])), (6, (.istore_n 3, 7, 0, .null, [], [])), (7, (.iload_n 2, 8, 0, .null, [], [])), (8, (.tableswitch 142 0 5 #[40, 52, 81, 108, 108, 116], 48, 150, .null, [((0), 48), ((1), 60), ((2), 89), ((3), 116), ((4), 116), ((5), 124)], [])), (48, (.aload_n 0, 49, 0, .null, [], [])), (49, (.iload_n 1, 50, 0, .null, [], [])), (50, (.bipush 114, 52, 0, .int (114), [], [])), (52, (.iconst 0, 53, 0, .int (0), [], [])), (53, (.iconst 0, 54, 0, .int (0), [], [])), (54, (.invokevirtual 253, 57, 0, .null, [], [])), (57, (.goto 100, 60, 157, .null, [], [])), (60, (.aload_n 0, 61, 0, .null, [], [])), (61, (.getfield 46, 64, 0, .null, [], [(10, 19)])), (64, (.iload_n 1, 65, 0, .null, [], [])), (65, (.iload_n 3, 66, 0, .null, [], [])), (66, (.aload_n 0, 67, 0, .null, [], [])), (67, (.getfield 46, 70, 0, .null, [], [(10, 19)])), (70, (.iload_n 1, 71, 0, .null, [], [])), (71, (.iconst 1, 72, 0, .int (1), [], [])), (72, (.iadd, 73, 0, .null, [], [])), (73, (.iaload, 74, 0, .null, [], [])), (74, (.invokestatic 260, 77, 0, .null, [], [])), (77, (.iastore, 78, 0, .null, [], [])), (78, (.aload_n 0, 79, 0, .null, [], [])), (79, (.iload_n 1, 80, 0, .null, [], [])), (80, (.iconst 1, 81, 0, .int (1), [], [])), (81, (.iadd, 82, 0, .null, [], [])), (82, (.iconst 1, 83, 0, .int (1), [], [])), (83, (.invokevirtual 257, 86, 0, .null, [], [])), (86, (.goto 71, 89, 157, .null, [], [])), (89, (.aload_n 0, 90, 0, .null, [], [])), (90, (.getfield 46, 93, 0, .null, [], [(10, 19)])), (93, (.iload_n 1, 94, 0, .null, [], [])), (94, (.iload_n 3, 95, 0, .null, [], [])), (95, (.aload_n 0, 96, 0, .null, [], [])), (96, (.getfield 46, 99, 0, .null, [], [(10, 19)])), (99, (.iload_n 1, 100, 0, .null, [], [])), (100, (.iconst 1, 101, 0, .int (1), [], [])), (101, (.iadd, 102, 0, .null, [], [])), (102, (.iaload, 103, 0, .null, [], [])), (103, (.iadd, 104, 0, .null, [], [])), (104, (.iastore, 105, 0, .null, [], [])), (105, (.aload_n 0, 106, 0, .null, [], [])), (106, (.iload_n 1, 107, 0, .null, [], [])), (107, (.iconst 1, 108, 0, .int (1), [], [])), (108, (.iadd, 109, 0, .null, [], [])), (109, (.iconst 1, 110, 0, .int (1), [], [])), (110, (.invokevirtual 257, 113, 0, .null, [], [])), (113, (.goto 44, 116, 157, .null, [], [])), (116, (.aload_n 0, 117, 0, .null, [], [])), (117, (.iload_n 1, 118, 0, .null, [], [])), (118, (.invokevirtual 263, 121, 0, .null, [], [])), (121, (.goto 36, 124, 157, .null, [], [])), (124, (.aload_n 0, 125, 0, .null, [], [])), (125, (.iload_n 1, 126, 0, .null, [], [])), (126, (.invokevirtual 263, 129, 0, .null, [], [])), (129, (.aload_n 0, 130, 0, .null, [], [])), (130, (.getfield 46, 133, 0, .null, [], [(10, 19)])), (133, (.iload_n 1, 134, 0, .null, [], [])), (134, (.iconst 0, 135, 0, .int (0), [], [])), (135, (.aload_n 0, 136, 0, .null, [], [])), (136, (.getfield 46, 139, 0, .null, [], [(10, 19)])), (139, (.iload_n 1, 140, 0, .null, [], [])), (140, (.iaload, 141, 0, .null, [], [])), (141, (.iload_n 3, 142, 0, .null, [], [])), (142, (.isub, 143, 0, .null, [], [])), (143, (.invokestatic 266, 146, 0, .null, [], [])), (146, (.iastore, 147, 0, .null, [], [])), (147, (.goto 10, 150, 157, .null, [], [])), (150, (.aload_n 0, 151, 0, .null, [], [])), (151, (.iload_n 1, 152, 0, .null, [], [])), (152, (.iload_n 2, 153, 0, .null, [], [])), (153, (.iload_n 3, 154, 0, .null, [], [])), (154, (.invokevirtual 269, 157, 0, .null, [], [])), (157, (.aload_n 0, 158, 0, .null, [], [])), (158, (.getfield 73, 161, 0, .null, [], [(10, 30)])), (161, (.iload_n 2, 162, 0, .null, [], [])), (162, (.dup2, 163, 0, .null, [], [])), (163, (.iaload, 164, 0, .null, [], [])), (164, (.iconst 1, 165, 0, .int (1), [], [])), (165, (.iadd, 166, 0, .null, [], [])), (166, (.iastore, 167, 0, .null, [], [])), (167, (.aload_n 0, 168, 0, .null, [], [])), (168, (.invokevirtual 213, 171, 0, .null, [], [])), (171, (.return_, 172, 0, .null, [], []))]
noncomputable abbrev jX12_uses : List (Nat × sf_J sf_S) := [(54, sf_jV sf_layM [10] 5 gX12_becomes), (74, sf_jI sf_layM [] 2 gX12_lesser), (83, sf_jV sf_layM [10] 3 gX12_cuts), (110, sf_jV sf_layM [10] 3 gX12_cuts), (118, sf_jV sf_layM [10] 2 gX12_turns), (126, sf_jV sf_layM [10] 2 gX12_turns), (143, sf_jI sf_layM [] 2 gX12_greater), (154, sf_jV sf_layM [10] 4 gX12_usesMore), (168, sf_jV sf_layM [10] 1 gX12_places)]
abbrev wX12_uses_157 {ρ : Type} (k : Int32 → sf_S → Option ρ) : sf_M ρ := fun L st σ => sf_lda L 0 fun a0 => sf_eq a0 0 (sf_ldi L 2 fun x2 => sf_nil st (k x2 σ))
theorem wX12_uses_157_ok {ρ : Type} {Wt : Nat → sf_L → List Value → sf_S → Prop} {Post : ρ → Prop} (hm : sf_mono Wt) {k : Int32 → sf_S → Option ρ} (h : ∀ (x2 : Int32) (σ : sf_S) (u : ρ), k x2 σ = some u → Post u → Wt 157 [(0, some (.ref 0)), (2, some (.int x2))] [] σ) : sf_CK Wt Post 157 (wX12_uses_157 k) := by
  intro L st σ u hf hp
  unfold wX12_uses_157 at hf
  have hf0 := hf
  obtain ⟨a0, e0, hf1⟩ := sf_lda_inv hf0
  obtain ⟨rfl, hf2⟩ := sf_eq_inv hf1
  obtain ⟨x2, e2, hf3⟩ := sf_ldi_inv hf2
  obtain ⟨rfl, hz⟩ := sf_nil_inv hf3
  exact hm _ [(0, some (.ref _)), (2, some (.int x2))] _ _ _ (sf_le_ok (And.intro e0 (And.intro e2 trivial))) (h _ _ _ hz hp)
noncomputable def dX12_uses_157 (x2 : Int32) (σ : sf_S) : Option sf_S :=
  if sf_in x2 13 then
    if sf_in x2 13 then
      let s1 := sf_up σ 22 x2.toNatClampNeg ((σ 22 x2.toNatClampNeg) + (1 : Int32))
      (dX12_places s1).bind fun u2 =>
      some u2
    else
      none
  else
    none
set_option maxRecDepth 100000 in
set_option maxHeartbeats 4000000 in
theorem rX12_uses_157 {Wt : Nat → sf_L → List Value → sf_S → Prop} {Post : sf_S → Prop} (hs : sf_Snd Wt sf_layM sf_hV jX12_uses tX12_uses Post) (hm : sf_mono Wt) : sf_CK Wt Post 157 (wX12_uses_157 (dX12_uses_157)) := by
  refine wX12_uses_157_ok hm ?_
  intro x2 σ u h hp
  exact sf_run_ok hs sf_sm_nil 93 157 _ _ σ u h hp
noncomputable def dX12_uses (x1 : Int32) (x2 : Int32) (σ : sf_S) : Option sf_S :=
  if sf_in x1 40 then
    let v1 := (σ 13 x1.toNatClampNeg)
    if x2 = (0 : Int32) then
      (dX12_becomes x1 (114 : Int32) (0 : Int32) (0 : Int32) σ).bind fun u2 =>
      dX12_uses_157 x2 u2
    else
    if x2 = (1 : Int32) then
      if sf_in (x1 + (1 : Int32)) 40 then
        (dX12_lesser v1 (σ 13 ((x1 + (1 : Int32))).toNatClampNeg) σ).bind fun u3 =>
        if sf_in x1 40 then
          let s4 := sf_up u3.2 13 x1.toNatClampNeg u3.1
          (dX12_cuts (x1 + (1 : Int32)) (1 : Int32) s4).bind fun u5 =>
          dX12_uses_157 x2 u5
        else
          none
      else
        none
    else
    if x2 = (2 : Int32) then
      if sf_in (x1 + (1 : Int32)) 40 then
        if sf_in x1 40 then
          let s6 := sf_up σ 13 x1.toNatClampNeg (v1 + (σ 13 ((x1 + (1 : Int32))).toNatClampNeg))
          (dX12_cuts (x1 + (1 : Int32)) (1 : Int32) s6).bind fun u7 =>
          dX12_uses_157 x2 u7
        else
          none
      else
        none
    else
    if x2 = (3 : Int32) then
      (dX12_turns x1 σ).bind fun u8 =>
      dX12_uses_157 x2 u8
    else
    if x2 = (4 : Int32) then
      (dX12_turns x1 σ).bind fun u9 =>
      dX12_uses_157 x2 u9
    else
    if x2 = (5 : Int32) then
      (dX12_turns x1 σ).bind fun u10 =>
      if sf_in x1 40 then
        (dX12_greater (0 : Int32) ((u10 13 x1.toNatClampNeg) - v1) u10).bind fun u11 =>
        if sf_in x1 40 then
          let s12 := sf_up u11.2 13 x1.toNatClampNeg u11.1
          dX12_uses_157 x2 s12
        else
          none
      else
        none
    else
      (dX12_usesMore x1 x2 v1 σ).bind fun u13 =>
      dX12_uses_157 x2 u13
  else
    none
noncomputable abbrev gX12_uses (av : List Value) (σ : sf_S) : Option sf_S := match av with
  | [.ref q, .int x1, .int x2] => (match sf_rv [0] q with | true => dX12_uses x1 x2 σ | false => none)
  | _ => none
set_option maxRecDepth 100000 in
set_option maxHeartbeats 4000000 in
theorem rX12_uses {Wt : Nat → sf_L → List Value → sf_S → Prop} {Post : sf_S → Prop} (hs : sf_Snd Wt sf_layM sf_hV jX12_uses tX12_uses Post) (hm : sf_mono Wt) : ∀ av σ u, gX12_uses av σ = some u → Post u → (∀ ad, (lg_sl (av.map (sf_v ad))).length ≤ 4) ∧ Wt 0 (sf_ent 0 av) [] σ := by
  intro av σ u h hp
  unfold gX12_uses at h
  split at h
  · rename_i q x1 x2
    split at h
    · rename_i hq
      have hq : q = 0 := by simpa using sf_rv_mem hq
      subst hq
      refine ⟨fun ad => Nat.le_of_ble_eq_true rfl, ?_⟩
      exact sf_run_ok hs (sf_sm_cons (rX12_uses_157 hs hm) sf_sm_nil) 93 0 _ _ σ u h hp
    · cases h
  · cases h
theorem kX12_uses (l : Launch) : sf_C l sf_layM yX12_uses cX12_uses 4 none (sf_rm 4 169) (fun av σ => (gX12_uses av σ).map sf_vV) :=
  sf_met (tab := tX12_uses) (J := jX12_uses) (fl := sf_fl12) (cl := sf_cl12) (by decide +kernel) ⟨rfl, rfl⟩ sf_RH_V (by decide +kernel) sf_fl12_ok sf_cl12_ok
    (sf_JO_cons (sf_je_V (n := 5) (cs := [10]) (tv := sf_vV) (kX12_becomes l) mwX12_becomes (by decide +kernel : decode cX12_uses 54 = .ok (.invokevirtual 253, 3)) wt_1534 wt_1536 wt_105 (by decide +kernel) (by decide) (by decide) (List.forall_mem_cons.mpr ⟨⟨_, _, rfl⟩, fun _ h => absurd h List.not_mem_nil⟩) (sf_RM_of (by omega) (by omega))) (sf_JO_cons (sf_je_S (n := 2) (tv := sf_vI) (kX12_lesser l) mwX12_lesser (by decide +kernel : decode cX12_uses 74 = .ok (.invokestatic 260, 3)) wt_1538 wt_1539 (by decide +kernel) (sf_RM_of (by omega) (by omega))) (sf_JO_cons (sf_je_V (n := 3) (cs := [10]) (tv := sf_vV) (kX12_cuts l) mwX12_cuts (by decide +kernel : decode cX12_uses 83 = .ok (.invokevirtual 257, 3)) wt_1541 wt_1543 wt_106 (by decide +kernel) (by decide) (by decide) (List.forall_mem_cons.mpr ⟨⟨_, _, rfl⟩, fun _ h => absurd h List.not_mem_nil⟩) (sf_RM_of (by omega) (by omega))) (sf_JO_cons (sf_je_V (n := 3) (cs := [10]) (tv := sf_vV) (kX12_cuts l) mwX12_cuts (by decide +kernel : decode cX12_uses 110 = .ok (.invokevirtual 257, 3)) wt_1541 wt_1543 wt_106 (by decide +kernel) (by decide) (by decide) (List.forall_mem_cons.mpr ⟨⟨_, _, rfl⟩, fun _ h => absurd h List.not_mem_nil⟩) (sf_RM_of (by omega) (by omega))) (sf_JO_cons (sf_je_V (n := 2) (cs := [10]) (tv := sf_vV) (kX12_turns l) mwX12_turns (by decide +kernel : decode cX12_uses 118 = .ok (.invokevirtual 263, 3)) wt_1545 wt_1547 wt_107 (by decide +kernel) (by decide) (by decide) (List.forall_mem_cons.mpr ⟨⟨_, _, rfl⟩, fun _ h => absurd h List.not_mem_nil⟩) (sf_RM_of (by omega) (by omega))) (sf_JO_cons (sf_je_V (n := 2) (cs := [10]) (tv := sf_vV) (kX12_turns l) mwX12_turns (by decide +kernel : decode cX12_uses 126 = .ok (.invokevirtual 263, 3)) wt_1545 wt_1547 wt_107 (by decide +kernel) (by decide) (by decide) (List.forall_mem_cons.mpr ⟨⟨_, _, rfl⟩, fun _ h => absurd h List.not_mem_nil⟩) (sf_RM_of (by omega) (by omega))) (sf_JO_cons (sf_je_S (n := 2) (tv := sf_vI) (kX12_greater l) mwX12_greater (by decide +kernel : decode cX12_uses 143 = .ok (.invokestatic 266, 3)) wt_1549 wt_1550 (by decide +kernel) (sf_RM_of (by omega) (by omega))) (sf_JO_cons (sf_je_V (n := 4) (cs := [10]) (tv := sf_vV) (kX12_usesMore l) mwX12_usesMore (by decide +kernel : decode cX12_uses 154 = .ok (.invokevirtual 269, 3)) wt_1552 wt_1554 wt_108 (by decide +kernel) (by decide) (by decide) (List.forall_mem_cons.mpr ⟨⟨_, _, rfl⟩, fun _ h => absurd h List.not_mem_nil⟩) (sf_RM_of (by omega) (by omega))) (sf_JO_cons (sf_je_V (n := 1) (cs := [10]) (tv := sf_vV) (kX12_places l) mwX12_places (by decide +kernel : decode cX12_uses 168 = .ok (.invokevirtual 213, 3)) wt_1457 wt_1459 wt_91 (by decide +kernel) (by decide) (by decide) (List.forall_mem_cons.mpr ⟨⟨_, _, rfl⟩, fun _ h => absurd h List.not_mem_nil⟩) (sf_RM_of (by omega) (by omega))) (sf_JO_nil))))))))))
    (fun Wt Post hs hm => rX12_uses hs hm)
-- ===== StreamFuserModel.tidiesOnce(I)Z =====
abbrev tX12_tidiesOnce : List (Nat × sf_E) := [(0, (.iconst 0, 1, 0, .int (0), [], [])), (1, (.istore_n 2, 2, 0, .null, [], [])), (2, (.iload_n 2, 3, 0, .null, [], [])), (3, (.aload_n 0, 4, 0, .null, [], [])), (4, (.getfield 206, 7, 0, .null, [], [(10, 21)])), (7, (.if_icmp .ge 48, 10, 55, .null, [], [])), (10, (.iload_n 1, 11, 0, .null, [], [])), (11, (.ifCond .ne 7, 14, 18, .null, [], [])), (14, (.iload_n 2, 15, 0, .null, [], [])), (15, (.goto 11, 18, 26, .null, [], [])), (18, (.aload_n 0, 19, 0, .null, [], [])), (19, (.getfield 206, 22, 0, .null, [], [(10, 21)])), (22, (.iconst 1, 23, 0, .int (1), [], [])), (23, (.isub, 24, 0, .null, [], [])), (24, (.iload_n 2, 25, 0, .null, [], [])), (25, (.isub, 26, 0, .null, [], [])), (26, (.istore_n 3, 27, 0, .null, [], [])), (27, (.aload_n 0, 28, 0, .null, [], [])), (28, (.iload_n 3, 29, 0, .null, [], [])), (29, (.invokevirtual 276, 32, 0, .null, [], [])), (32, (.istore 4, 34, 0, .null, [], [])), (34, (.iload 4, 36, 0, .null, [], [])), (36, (.iconst (-1), 37, 0, .int (-1), [], [])), (37, (.if_icmp .eq 12, 40, 49, .null, [], [])), (40, (.aload_n 0, 41, 0, .null, [], [])), (41, (.iload_n 3, 42, 0, .null, [], [])), (42, (.iload 4, 44, 0, .null, [], [])), (44, (.invokevirtual 279, 47, 0, .null, [], [])), (47, (.iconst 1, 48, 0, .int (1), [], [])), (48, (.ireturn, 49, 0, .null, [], [])), (49, (.iinc 2 1, 52, 0, .int (1), [], [])), (52, (.goto (-50), 55, 2, .null, [], [])), (55, (.iconst 0, 56, 0, .int (0), [], [])), (56, (.ireturn, 57, 0, .null, [], []))]
noncomputable abbrev jX12_tidiesOnce : List (Nat × sf_J (Int32 × sf_S)) := [(29, sf_jI sf_layM [10] 2 gX12_ruleAt), (44, sf_jV sf_layM [10] 3 gX12_uses)]
abbrev wX12_tidiesOnce_26 {ρ : Type} (k : Int32 → Int32 → Int32 → sf_S → Option ρ) : sf_M ρ := fun L st σ => sf_lda L 0 fun a0 => sf_eq a0 0 (sf_ldi L 1 fun x1 => sf_ldi L 2 fun x2 => sf_i1 st fun y0 st => sf_nil st (k x1 x2 y0 σ))
theorem wX12_tidiesOnce_26_ok {ρ : Type} {Wt : Nat → sf_L → List Value → sf_S → Prop} {Post : ρ → Prop} (hm : sf_mono Wt) {k : Int32 → Int32 → Int32 → sf_S → Option ρ} (h : ∀ (x1 : Int32) (x2 : Int32) (y0 : Int32) (σ : sf_S) (u : ρ), k x1 x2 y0 σ = some u → Post u → Wt 26 [(0, some (.ref 0)), (1, some (.int x1)), (2, some (.int x2))] [.int y0] σ) : sf_CK Wt Post 26 (wX12_tidiesOnce_26 k) := by
  intro L st σ u hf hp
  unfold wX12_tidiesOnce_26 at hf
  have hf0 := hf
  obtain ⟨a0, e0, hf1⟩ := sf_lda_inv hf0
  obtain ⟨rfl, hf2⟩ := sf_eq_inv hf1
  obtain ⟨x1, e1, hf3⟩ := sf_ldi_inv hf2
  obtain ⟨x2, e2, hf4⟩ := sf_ldi_inv hf3
  obtain ⟨y0, st, rfl, hf5⟩ := sf_i1_inv hf4
  obtain ⟨rfl, hz⟩ := sf_nil_inv hf5
  exact hm _ [(0, some (.ref _)), (1, some (.int x1)), (2, some (.int x2))] _ _ _ (sf_le_ok (And.intro e0 (And.intro e1 (And.intro e2 trivial)))) (h _ _ _ _ _ hz hp)
abbrev wX12_tidiesOnce_2 {ρ : Type} (k : Int32 → Int32 → sf_S → Option ρ) : sf_M ρ := fun L st σ => sf_lda L 0 fun a0 => sf_eq a0 0 (sf_ldi L 1 fun x1 => sf_ldi L 2 fun x2 => sf_nil st (k x1 x2 σ))
theorem wX12_tidiesOnce_2_ok {ρ : Type} {Wt : Nat → sf_L → List Value → sf_S → Prop} {Post : ρ → Prop} (hm : sf_mono Wt) {k : Int32 → Int32 → sf_S → Option ρ} (h : ∀ (x1 : Int32) (x2 : Int32) (σ : sf_S) (u : ρ), k x1 x2 σ = some u → Post u → Wt 2 [(0, some (.ref 0)), (1, some (.int x1)), (2, some (.int x2))] [] σ) : sf_CK Wt Post 2 (wX12_tidiesOnce_2 k) := by
  intro L st σ u hf hp
  unfold wX12_tidiesOnce_2 at hf
  have hf0 := hf
  obtain ⟨a0, e0, hf1⟩ := sf_lda_inv hf0
  obtain ⟨rfl, hf2⟩ := sf_eq_inv hf1
  obtain ⟨x1, e1, hf3⟩ := sf_ldi_inv hf2
  obtain ⟨x2, e2, hf4⟩ := sf_ldi_inv hf3
  obtain ⟨rfl, hz⟩ := sf_nil_inv hf4
  exact hm _ [(0, some (.ref _)), (1, some (.int x1)), (2, some (.int x2))] _ _ _ (sf_le_ok (And.intro e0 (And.intro e1 (And.intro e2 trivial)))) (h _ _ _ _ hz hp)
noncomputable def dX12_tidiesOnce_26 (K2 : Int32 → Int32 → sf_S → Option (Int32 × sf_S)) (x1 : Int32) (x2 : Int32) (y0 : Int32) (σ : sf_S) : Option (Int32 × sf_S) :=
  (dX12_ruleAt y0 σ).bind fun u1 =>
  if u1.1 = (-1 : Int32) then
    K2 x1 (x2 + (1 : Int32)) u1.2
  else
    (dX12_uses y0 u1.1 u1.2).bind fun u2 =>
    some ((1 : Int32), u2)
set_option maxRecDepth 100000 in
set_option maxHeartbeats 4000000 in
theorem rX12_tidiesOnce_26 {Wt : Nat → sf_L → List Value → sf_S → Prop} {Post : (Int32 × sf_S) → Prop} (hs : sf_Snd Wt sf_layM sf_hZ jX12_tidiesOnce tX12_tidiesOnce Post) (hm : sf_mono Wt) {K2 : Int32 → Int32 → sf_S → Option (Int32 × sf_S)} (hK2 : sf_CK Wt Post 2 (wX12_tidiesOnce_2 K2)) : sf_CK Wt Post 26 (wX12_tidiesOnce_26 (dX12_tidiesOnce_26 K2)) := by
  refine wX12_tidiesOnce_26_ok hm ?_
  intro x1 x2 y0 σ u h hp
  exact sf_run_ok hs (sf_sm_cons hK2 sf_sm_nil) 39 26 _ _ σ u h hp
noncomputable def dX12_tidiesOnce_2 : Nat → Int32 → Int32 → sf_S → Option (Int32 × sf_S)
  | 0 => fun _ _ _ => none
  | n + 1 => fun x1 x2 σ =>
    if (σ 0 21) ≤ x2 then
      some ((0 : Int32), σ)
    else
      if ¬ x1 = 0 then
        dX12_tidiesOnce_26 (dX12_tidiesOnce_2 n) x1 x2 (((σ 0 21) - (1 : Int32)) - x2) σ
      else
        dX12_tidiesOnce_26 (dX12_tidiesOnce_2 n) x1 x2 x2 σ
set_option maxRecDepth 100000 in
set_option maxHeartbeats 4000000 in
theorem rX12_tidiesOnce_2 {Wt : Nat → sf_L → List Value → sf_S → Prop} {Post : (Int32 × sf_S) → Prop} (hs : sf_Snd Wt sf_layM sf_hZ jX12_tidiesOnce tX12_tidiesOnce Post) (hm : sf_mono Wt) : ∀ n : Nat, sf_CK Wt Post 2 (wX12_tidiesOnce_2 (dX12_tidiesOnce_2 n)) := by
  intro n
  induction n with
  | zero => exact wX12_tidiesOnce_2_ok hm (fun x1 x2 σ u h _ => by simp [dX12_tidiesOnce_2] at h)
  | succ n ih =>
    refine wX12_tidiesOnce_2_ok hm ?_
    intro x1 x2 σ u h hp
    exact sf_run_ok hs (sf_sm_cons (rX12_tidiesOnce_26 hs hm ih) sf_sm_nil) 39 2 _ _ σ u h hp
noncomputable def dX12_tidiesOnce (x1 : Int32) (σ : sf_S) : Option (Int32 × sf_S) :=
  dX12_tidiesOnce_2 sf_F x1 (0 : Int32) σ
noncomputable abbrev gX12_tidiesOnce (av : List Value) (σ : sf_S) : Option (Int32 × sf_S) := match av with
  | [.ref q, .int x1] => (match sf_rv [0] q with | true => dX12_tidiesOnce x1 σ | false => none)
  | _ => none
set_option maxRecDepth 100000 in
set_option maxHeartbeats 4000000 in
theorem rX12_tidiesOnce {Wt : Nat → sf_L → List Value → sf_S → Prop} {Post : (Int32 × sf_S) → Prop} (hs : sf_Snd Wt sf_layM sf_hZ jX12_tidiesOnce tX12_tidiesOnce Post) (hm : sf_mono Wt) : ∀ av σ u, gX12_tidiesOnce av σ = some u → Post u → (∀ ad, (lg_sl (av.map (sf_v ad))).length ≤ 5) ∧ Wt 0 (sf_ent 0 av) [] σ := by
  intro av σ u h hp
  unfold gX12_tidiesOnce at h
  split at h
  · rename_i q x1
    split at h
    · rename_i hq
      have hq : q = 0 := by simpa using sf_rv_mem hq
      subst hq
      refine ⟨fun ad => Nat.le_of_ble_eq_true rfl, ?_⟩
      exact sf_run_ok hs (sf_sm_cons (rX12_tidiesOnce_2 hs hm sf_F) sf_sm_nil) 39 0 _ _ σ u h hp
    · cases h
  · cases h
theorem kX12_tidiesOnce (l : Launch) : sf_C l sf_layM yX12_tidiesOnce cX12_tidiesOnce 5 (some .boolean) (sf_rm 5 192) (fun av σ => (gX12_tidiesOnce av σ).map sf_vI) :=
  sf_met (tab := tX12_tidiesOnce) (J := jX12_tidiesOnce) (fl := sf_fl12) (cl := sf_cl12) (by decide +kernel) ⟨rfl, rfl⟩ sf_RH_Z (by decide +kernel) sf_fl12_ok sf_cl12_ok
    (sf_JO_cons (sf_je_V (n := 2) (cs := [10]) (tv := sf_vI) (kX12_ruleAt l) mwX12_ruleAt (by decide +kernel : decode cX12_tidiesOnce 29 = .ok (.invokevirtual 276, 3)) wt_1515 wt_1517 wt_101 (by decide +kernel) (by decide) (by decide) (List.forall_mem_cons.mpr ⟨⟨_, _, rfl⟩, fun _ h => absurd h List.not_mem_nil⟩) (sf_RM_of (by omega) (by omega))) (sf_JO_cons (sf_je_V (n := 3) (cs := [10]) (tv := sf_vV) (kX12_uses l) mwX12_uses (by decide +kernel : decode cX12_tidiesOnce 44 = .ok (.invokevirtual 279, 3)) wt_1530 wt_1532 wt_104 (by decide +kernel) (by decide) (by decide) (List.forall_mem_cons.mpr ⟨⟨_, _, rfl⟩, fun _ h => absurd h List.not_mem_nil⟩) (sf_RM_of (by omega) (by omega))) (sf_JO_nil)))
    (fun Wt Post hs hm => rX12_tidiesOnce hs hm)
-- ===== StreamFuserModel.tidies(I)I =====
abbrev tX12_tidies : List (Nat × sf_E) := [(0, (.iconst 0, 1, 0, .int (0), [], [])), (1, (.istore_n 2, 2, 0, .null, [], [])), (2, (.iload_n 2, 3, 0, .null, [], [])), (3, (.bipush 13, 5, 0, .int (13), [], [])), (5, (.if_icmp .ge 16, 8, 21, .null, [], [])), (8, (.aload_n 0, 9, 0, .null, [], [])), (9, (.getfield 73, 12, 0, .null, [], [(10, 30)])), (12, (.iload_n 2, 13, 0, .null, [], [])), (13, (.iconst 0, 14, 0, .int (0), [], [])), (14, (.iastore, 15, 0, .null, [], [])), (15, (.iinc 2 1, 18, 0, .int (1), [], [])), (18, (.goto (-16), 21, 2, .null, [], [])), (21, (.iconst 0, 22, 0, .int (0), [], [])), (22, (.istore_n 2, 23, 0, .null, [], [])), (23, (.iconst 1, 24, 0, .int (1), [], [])), (24, (.istore_n 3, 25, 0, .null, [], [])), (25, (.iconst 0, 26, 0, .int (0), [], [])), (26, (.istore 4, 28, 0, .null, [], [])), (28, (.iload 4, 30, 0, .null, [], [])), (30, (.ldc_w 282, 33, 0, .int (1000000), [], [])), (33, (.if_icmp .ge 31, 36, 64, .null, [], [])), (36, (.iload_n 3, 37, 0, .null, [], [])), (37, (.ifCond .eq 27, 40, 64, .null, [], [])), (40, (.aload_n 0, 41, 0, .null, [], [])), (41, (.iload_n 1, 42, 0, .null, [], [])), (42, (.invokevirtual 283, 45, 0, .null, [], [])), (45, (.istore_n 3, 46, 0, .null, [], [])), (46, (.iload_n 2, 47, 0, .null, [], [])), (47, (.iload_n 3, 48, 0, .null, [], [])), (48, (.ifCond .eq 7, 51, 55, .null, [], [])), (51, (.iconst 1, 52, 0, .int (1), [], [])), (52, (.goto 4, 55, 56, .null, [], [])), (55, (.iconst 0, 56, 0, .int (0), [], [])), (56, (.iadd, 57, 0, .null, [], [])), (57, (.istore_n 2, 58, 0, .null, [], [])), (58, (.iinc 4 1, 61, 0, .int (1), [], [])), (61, (.goto (-33), 64, 28, .null, [], [])), (64, (.iload_n 2, 65, 0, .null, [], [])), (65, (.ireturn, 66, 0, .null, [], []))]
noncomputable abbrev jX12_tidies : List (Nat × sf_J (Int32 × sf_S)) := [(42, sf_jI sf_layM [10] 2 gX12_tidiesOnce)]
abbrev wX12_tidies_28 {ρ : Type} (k : Int32 → Int32 → Int32 → Int32 → sf_S → Option ρ) : sf_M ρ := fun L st σ => sf_lda L 0 fun a0 => sf_eq a0 0 (sf_ldi L 1 fun x1 => sf_ldi L 2 fun x2 => sf_ldi L 3 fun x3 => sf_ldi L 4 fun x4 => sf_nil st (k x1 x2 x3 x4 σ))
theorem wX12_tidies_28_ok {ρ : Type} {Wt : Nat → sf_L → List Value → sf_S → Prop} {Post : ρ → Prop} (hm : sf_mono Wt) {k : Int32 → Int32 → Int32 → Int32 → sf_S → Option ρ} (h : ∀ (x1 : Int32) (x2 : Int32) (x3 : Int32) (x4 : Int32) (σ : sf_S) (u : ρ), k x1 x2 x3 x4 σ = some u → Post u → Wt 28 [(0, some (.ref 0)), (1, some (.int x1)), (2, some (.int x2)), (3, some (.int x3)), (4, some (.int x4))] [] σ) : sf_CK Wt Post 28 (wX12_tidies_28 k) := by
  intro L st σ u hf hp
  unfold wX12_tidies_28 at hf
  have hf0 := hf
  obtain ⟨a0, e0, hf1⟩ := sf_lda_inv hf0
  obtain ⟨rfl, hf2⟩ := sf_eq_inv hf1
  obtain ⟨x1, e1, hf3⟩ := sf_ldi_inv hf2
  obtain ⟨x2, e2, hf4⟩ := sf_ldi_inv hf3
  obtain ⟨x3, e3, hf5⟩ := sf_ldi_inv hf4
  obtain ⟨x4, e4, hf6⟩ := sf_ldi_inv hf5
  obtain ⟨rfl, hz⟩ := sf_nil_inv hf6
  exact hm _ [(0, some (.ref _)), (1, some (.int x1)), (2, some (.int x2)), (3, some (.int x3)), (4, some (.int x4))] _ _ _ (sf_le_ok (And.intro e0 (And.intro e1 (And.intro e2 (And.intro e3 (And.intro e4 trivial)))))) (h _ _ _ _ _ _ hz hp)
abbrev wX12_tidies_2 {ρ : Type} (k : Int32 → Int32 → sf_S → Option ρ) : sf_M ρ := fun L st σ => sf_lda L 0 fun a0 => sf_eq a0 0 (sf_ldi L 1 fun x1 => sf_ldi L 2 fun x2 => sf_nil st (k x1 x2 σ))
theorem wX12_tidies_2_ok {ρ : Type} {Wt : Nat → sf_L → List Value → sf_S → Prop} {Post : ρ → Prop} (hm : sf_mono Wt) {k : Int32 → Int32 → sf_S → Option ρ} (h : ∀ (x1 : Int32) (x2 : Int32) (σ : sf_S) (u : ρ), k x1 x2 σ = some u → Post u → Wt 2 [(0, some (.ref 0)), (1, some (.int x1)), (2, some (.int x2))] [] σ) : sf_CK Wt Post 2 (wX12_tidies_2 k) := by
  intro L st σ u hf hp
  unfold wX12_tidies_2 at hf
  have hf0 := hf
  obtain ⟨a0, e0, hf1⟩ := sf_lda_inv hf0
  obtain ⟨rfl, hf2⟩ := sf_eq_inv hf1
  obtain ⟨x1, e1, hf3⟩ := sf_ldi_inv hf2
  obtain ⟨x2, e2, hf4⟩ := sf_ldi_inv hf3
  obtain ⟨rfl, hz⟩ := sf_nil_inv hf4
  exact hm _ [(0, some (.ref _)), (1, some (.int x1)), (2, some (.int x2))] _ _ _ (sf_le_ok (And.intro e0 (And.intro e1 (And.intro e2 trivial)))) (h _ _ _ _ hz hp)
noncomputable def dX12_tidies_28 : Nat → Int32 → Int32 → Int32 → Int32 → sf_S → Option (Int32 × sf_S)
  | 0 => fun _ _ _ _ _ => none
  | n + 1 => fun x1 x2 x3 x4 σ =>
    if (1000000 : Int32) ≤ x4 then
      some (x2, σ)
    else
      if x3 = 0 then
        some (x2, σ)
      else
        (dX12_tidiesOnce x1 σ).bind fun u1 =>
        if u1.1 = 0 then
          dX12_tidies_28 n x1 (x2 + (0 : Int32)) u1.1 (x4 + (1 : Int32)) u1.2
        else
          dX12_tidies_28 n x1 (x2 + (1 : Int32)) u1.1 (x4 + (1 : Int32)) u1.2
set_option maxRecDepth 100000 in
set_option maxHeartbeats 4000000 in
theorem rX12_tidies_28 {Wt : Nat → sf_L → List Value → sf_S → Prop} {Post : (Int32 × sf_S) → Prop} (hs : sf_Snd Wt sf_layM sf_hI jX12_tidies tX12_tidies Post) (hm : sf_mono Wt) : ∀ n : Nat, sf_CK Wt Post 28 (wX12_tidies_28 (dX12_tidies_28 n)) := by
  intro n
  induction n with
  | zero => exact wX12_tidies_28_ok hm (fun x1 x2 x3 x4 σ u h _ => by simp [dX12_tidies_28] at h)
  | succ n ih =>
    refine wX12_tidies_28_ok hm ?_
    intro x1 x2 x3 x4 σ u h hp
    exact sf_run_ok hs (sf_sm_cons ih sf_sm_nil) 44 28 _ _ σ u h hp
noncomputable def dX12_tidies_2 : Nat → Int32 → Int32 → sf_S → Option (Int32 × sf_S)
  | 0 => fun _ _ _ => none
  | n + 1 => fun x1 x2 σ =>
    if (13 : Int32) ≤ x2 then
      dX12_tidies_28 sf_F x1 (0 : Int32) (1 : Int32) (0 : Int32) σ
    else
      if sf_in x2 13 then
        let s1 := sf_up σ 22 x2.toNatClampNeg (0 : Int32)
        dX12_tidies_2 n x1 (x2 + (1 : Int32)) s1
      else
        none
set_option maxRecDepth 100000 in
set_option maxHeartbeats 4000000 in
theorem rX12_tidies_2 {Wt : Nat → sf_L → List Value → sf_S → Prop} {Post : (Int32 × sf_S) → Prop} (hs : sf_Snd Wt sf_layM sf_hI jX12_tidies tX12_tidies Post) (hm : sf_mono Wt) : ∀ n : Nat, sf_CK Wt Post 2 (wX12_tidies_2 (dX12_tidies_2 n)) := by
  intro n
  induction n with
  | zero => exact wX12_tidies_2_ok hm (fun x1 x2 σ u h _ => by simp [dX12_tidies_2] at h)
  | succ n ih =>
    refine wX12_tidies_2_ok hm ?_
    intro x1 x2 σ u h hp
    exact sf_run_ok hs (sf_sm_cons ih (sf_sm_cons (rX12_tidies_28 hs hm sf_F) sf_sm_nil)) 44 2 _ _ σ u h hp
noncomputable def dX12_tidies (x1 : Int32) (σ : sf_S) : Option (Int32 × sf_S) :=
  dX12_tidies_2 sf_F x1 (0 : Int32) σ
noncomputable abbrev gX12_tidies (av : List Value) (σ : sf_S) : Option (Int32 × sf_S) := match av with
  | [.ref q, .int x1] => (match sf_rv [0] q with | true => dX12_tidies x1 σ | false => none)
  | _ => none
set_option maxRecDepth 100000 in
set_option maxHeartbeats 4000000 in
theorem rX12_tidies {Wt : Nat → sf_L → List Value → sf_S → Prop} {Post : (Int32 × sf_S) → Prop} (hs : sf_Snd Wt sf_layM sf_hI jX12_tidies tX12_tidies Post) (hm : sf_mono Wt) : ∀ av σ u, gX12_tidies av σ = some u → Post u → (∀ ad, (lg_sl (av.map (sf_v ad))).length ≤ 5) ∧ Wt 0 (sf_ent 0 av) [] σ := by
  intro av σ u h hp
  unfold gX12_tidies at h
  split at h
  · rename_i q x1
    split at h
    · rename_i hq
      have hq : q = 0 := by simpa using sf_rv_mem hq
      subst hq
      refine ⟨fun ad => Nat.le_of_ble_eq_true rfl, ?_⟩
      exact sf_run_ok hs (sf_sm_cons (rX12_tidies_2 hs hm sf_F) sf_sm_nil) 44 0 _ _ σ u h hp
    · cases h
  · cases h
theorem kX12_tidies (l : Launch) : sf_C l sf_layM yX12_tidies cX12_tidies 5 (some .int) (sf_rm 6 216) (fun av σ => (gX12_tidies av σ).map sf_vI) :=
  sf_met (tab := tX12_tidies) (J := jX12_tidies) (fl := sf_fl12) (cl := sf_cl12) (by decide +kernel) ⟨rfl, rfl⟩ sf_RH_I (by decide +kernel) sf_fl12_ok sf_cl12_ok
    (sf_JO_cons (sf_je_V (n := 2) (cs := [10]) (tv := sf_vI) (kX12_tidiesOnce l) mwX12_tidiesOnce (by decide +kernel : decode cX12_tidies 42 = .ok (.invokevirtual 283, 3)) wt_1511 wt_1513 wt_100 (by decide +kernel) (by decide) (by decide) (List.forall_mem_cons.mpr ⟨⟨_, _, rfl⟩, fun _ h => absurd h List.not_mem_nil⟩) (sf_RM_of (by omega) (by omega))) (sf_JO_nil))
    (fun Wt Post hs hm => rX12_tidies hs hm)
-- ===== StreamFuserModel.tidy(I)I =====
abbrev tX12_tidy : List (Nat × sf_E) := [(0, (.iload_n 1, 1, 0, .null, [], [])), (1, (.i2l, 2, 0, .null, [], [])), (2, (.lconst 0, 3, 0, .long 0, [], [])), (3, (.lconst 1, 4, 0, .long 1, [], [])), (4, (.invokestatic 132, 7, 0, .null, [], [])), (7, (.ifCond .ne 6, 10, 13, .null, [], [])), (10, (.bipush (-2), 12, 0, .int (-2), [], [])), (12, (.ireturn, 13, 0, .null, [], [])), (13, (.aload_n 0, 14, 0, .null, [], [])), (14, (.getfield 206, 17, 0, .null, [], [(10, 21)])), (17, (.ifCond .ne 6, 20, 23, .null, [], [])), (20, (.bipush (-3), 22, 0, .int (-3), [], [])), (22, (.ireturn, 23, 0, .null, [], [])), (23, (.aload_n 0, 24, 0, .null, [], [])), (24, (.aload_n 0, 25, 0, .null, [], [])), (25, (.iload_n 1, 26, 0, .null, [], [])), (26, (.invokevirtual 286, 29, 0, .null, [], [])), (29, (.putfield 289, 32, 0, .null, [], [(10, 32)])), (32, (.iconst 0, 33, 0, .int (0), [], [])), (33, (.istore_n 2, 34, 0, .null, [], [])), (34, (.iload_n 2, 35, 0, .null, [], [])), (35, (.bipush 13, 37, 0, .int (13), [], [])), (37, (.if_icmp .ge 21, 40, 58, .null, [], [])), (40, (.aload_n 0, 41, 0, .null, [], [])), (41, (.getfield 76, 44, 0, .null, [], [(10, 31)])), (44, (.iload_n 2, 45, 0, .null, [], [])), (45, (.aload_n 0, 46, 0, .null, [], [])), (46, (.getfield 73, 49, 0, .null, [], [(10, 30)])), (49, (.iload_n 2, 50, 0, .null, [], [])), (50, (.iaload, 51, 0, .null, [], [])), (51, (.iastore, 52, 0, .null, [], [])), (52, (.iinc 2 1, 55, 0, .int (1), [], [])), (55, (.goto (-21), 58, 34, .null, [], [])), (58, (.aload_n 0, 59, 0, .null, [], [])), (59, (.getfield 289, 62, 0, .null, [], [(10, 32)])), (62, (.ireturn, 63, 0, .null, [], []))]
noncomputable abbrev jX12_tidy : List (Nat × sf_J (Int32 × sf_S)) := [(4, sf_jI sf_layM [] 3 gX12_in), (26, sf_jI sf_layM [10] 2 gX12_tidies)]
abbrev wX12_tidy_34 {ρ : Type} (k : Int32 → sf_S → Option ρ) : sf_M ρ := fun L st σ => sf_lda L 0 fun a0 => sf_eq a0 0 (sf_ldi L 2 fun x2 => sf_nil st (k x2 σ))
theorem wX12_tidy_34_ok {ρ : Type} {Wt : Nat → sf_L → List Value → sf_S → Prop} {Post : ρ → Prop} (hm : sf_mono Wt) {k : Int32 → sf_S → Option ρ} (h : ∀ (x2 : Int32) (σ : sf_S) (u : ρ), k x2 σ = some u → Post u → Wt 34 [(0, some (.ref 0)), (2, some (.int x2))] [] σ) : sf_CK Wt Post 34 (wX12_tidy_34 k) := by
  intro L st σ u hf hp
  unfold wX12_tidy_34 at hf
  have hf0 := hf
  obtain ⟨a0, e0, hf1⟩ := sf_lda_inv hf0
  obtain ⟨rfl, hf2⟩ := sf_eq_inv hf1
  obtain ⟨x2, e2, hf3⟩ := sf_ldi_inv hf2
  obtain ⟨rfl, hz⟩ := sf_nil_inv hf3
  exact hm _ [(0, some (.ref _)), (2, some (.int x2))] _ _ _ (sf_le_ok (And.intro e0 (And.intro e2 trivial))) (h _ _ _ hz hp)
noncomputable def dX12_tidy_34 : Nat → Int32 → sf_S → Option (Int32 × sf_S)
  | 0 => fun _ _ => none
  | n + 1 => fun x2 σ =>
    if (13 : Int32) ≤ x2 then
      some ((σ 0 32), σ)
    else
      if sf_in x2 13 then
        if sf_in x2 13 then
          let s1 := sf_up σ 23 x2.toNatClampNeg (σ 22 x2.toNatClampNeg)
          dX12_tidy_34 n (x2 + (1 : Int32)) s1
        else
          none
      else
        none
set_option maxRecDepth 100000 in
set_option maxHeartbeats 4000000 in
theorem rX12_tidy_34 {Wt : Nat → sf_L → List Value → sf_S → Prop} {Post : (Int32 × sf_S) → Prop} (hs : sf_Snd Wt sf_layM sf_hI jX12_tidy tX12_tidy Post) (hm : sf_mono Wt) : ∀ n : Nat, sf_CK Wt Post 34 (wX12_tidy_34 (dX12_tidy_34 n)) := by
  intro n
  induction n with
  | zero => exact wX12_tidy_34_ok hm (fun x2 σ u h _ => by simp [dX12_tidy_34] at h)
  | succ n ih =>
    refine wX12_tidy_34_ok hm ?_
    intro x2 σ u h hp
    exact sf_run_ok hs (sf_sm_cons ih sf_sm_nil) 41 34 _ _ σ u h hp
noncomputable def dX12_tidy (x1 : Int32) (σ : sf_S) : Option (Int32 × sf_S) :=
  (dX12_in x1.toInt64 (0 : Int64) (1 : Int64) σ).bind fun u1 =>
  if ¬ u1.1 = 0 then
    if ¬ (u1.2 0 21) = 0 then
      (dX12_tidies x1 u1.2).bind fun u2 =>
      let s3 := sf_up u2.2 0 32 u2.1
      dX12_tidy_34 sf_F (0 : Int32) s3
    else
      some ((-3 : Int32), u1.2)
  else
    some ((-2 : Int32), u1.2)
noncomputable abbrev gX12_tidy (av : List Value) (σ : sf_S) : Option (Int32 × sf_S) := match av with
  | [.ref q, .int x1] => (match sf_rv [0] q with | true => dX12_tidy x1 σ | false => none)
  | _ => none
set_option maxRecDepth 100000 in
set_option maxHeartbeats 4000000 in
theorem rX12_tidy {Wt : Nat → sf_L → List Value → sf_S → Prop} {Post : (Int32 × sf_S) → Prop} (hs : sf_Snd Wt sf_layM sf_hI jX12_tidy tX12_tidy Post) (hm : sf_mono Wt) : ∀ av σ u, gX12_tidy av σ = some u → Post u → (∀ ad, (lg_sl (av.map (sf_v ad))).length ≤ 3) ∧ Wt 0 (sf_ent 0 av) [] σ := by
  intro av σ u h hp
  unfold gX12_tidy at h
  split at h
  · rename_i q x1
    split at h
    · rename_i hq
      have hq : q = 0 := by simpa using sf_rv_mem hq
      subst hq
      refine ⟨fun ad => Nat.le_of_ble_eq_true rfl, ?_⟩
      exact sf_run_ok hs (sf_sm_cons (rX12_tidy_34 hs hm sf_F) sf_sm_nil) 41 0 _ _ σ u h hp
    · cases h
  · cases h
theorem kX12_tidy (l : Launch) : sf_C l sf_layM yX12_tidy cX12_tidy 3 (some .int) (sf_rm 7 240) (fun av σ => (gX12_tidy av σ).map sf_vI) :=
  sf_met (tab := tX12_tidy) (J := jX12_tidy) (fl := sf_fl12) (cl := sf_cl12) (by decide +kernel) ⟨rfl, rfl⟩ sf_RH_I (by decide +kernel) sf_fl12_ok sf_cl12_ok
    (sf_JO_cons (sf_je_S (n := 3) (tv := sf_vI) (kX12_in l) mwX12_in (by decide +kernel : decode cX12_tidy 4 = .ok (.invokestatic 132, 3)) wt_1378 wt_1379 (by decide +kernel) (sf_RM_of (by omega) (by omega))) (sf_JO_cons (sf_je_V (n := 2) (cs := [10]) (tv := sf_vI) (kX12_tidies l) mwX12_tidies (by decide +kernel : decode cX12_tidy 26 = .ok (.invokevirtual 286, 3)) wt_1506 wt_1508 wt_99 (by decide +kernel) (by decide) (by decide) (List.forall_mem_cons.mpr ⟨⟨_, _, rfl⟩, fun _ h => absurd h List.not_mem_nil⟩) (sf_RM_of (by omega) (by omega))) (sf_JO_nil)))
    (fun Wt Post hs hm => rX12_tidy hs hm)
-- ===== StreamFuserModel.rules(I)I =====
abbrev tX12_rules : List (Nat × sf_E) := [(0, (.iload_n 1, 1, 0, .null, [], [])), (1, (.i2l, 2, 0, .null, [], [])), (2, (.lconst 0, 3, 0, .long 0, [], [])), (3, (.ldc2_w 292, 6, 0, .long (12), [], [])), (6, (.invokestatic 132, 9, 0, .null, [], [])), (9, (.ifCond .eq 12, 12, 21, .null, [], [])), (12, (.aload_n 0, 13, 0, .null, [], [])), (13, (.getfield 76, 16, 0, .null, [], [(10, 31)])), (16, (.iload_n 1, 17, 0, .null, [], [])), (17, (.iaload, 18, 0, .null, [], [])), (18, (.goto 5, 21, 23, .null, [], [])), (21, (.bipush (-2), 23, 0, .int (-2), [], [])), (23, (.ireturn, 24, 0, .null, [], []))]
noncomputable abbrev jX12_rules : List (Nat × sf_J (Int32 × sf_S)) := [(6, sf_jI sf_layM [] 3 gX12_in)]
noncomputable def dX12_rules (x1 : Int32) (σ : sf_S) : Option (Int32 × sf_S) :=
  (dX12_in x1.toInt64 (0 : Int64) (12 : Int64) σ).bind fun u1 =>
  if u1.1 = 0 then
    some ((-2 : Int32), u1.2)
  else
    if sf_in x1 13 then
      some ((u1.2 23 x1.toNatClampNeg), u1.2)
    else
      none
noncomputable abbrev gX12_rules (av : List Value) (σ : sf_S) : Option (Int32 × sf_S) := match av with
  | [.ref q, .int x1] => (match sf_rv [0] q with | true => dX12_rules x1 σ | false => none)
  | _ => none
set_option maxRecDepth 100000 in
set_option maxHeartbeats 4000000 in
theorem rX12_rules {Wt : Nat → sf_L → List Value → sf_S → Prop} {Post : (Int32 × sf_S) → Prop} (hs : sf_Snd Wt sf_layM sf_hI jX12_rules tX12_rules Post) (hm : sf_mono Wt) : ∀ av σ u, gX12_rules av σ = some u → Post u → (∀ ad, (lg_sl (av.map (sf_v ad))).length ≤ 2) ∧ Wt 0 (sf_ent 0 av) [] σ := by
  intro av σ u h hp
  unfold gX12_rules at h
  split at h
  · rename_i q x1
    split at h
    · rename_i hq
      have hq : q = 0 := by simpa using sf_rv_mem hq
      subst hq
      refine ⟨fun ad => Nat.le_of_ble_eq_true rfl, ?_⟩
      exact sf_run_ok hs sf_sm_nil 18 0 _ _ σ u h hp
    · cases h
  · cases h
theorem kX12_rules (l : Launch) : sf_C l sf_layM yX12_rules cX12_rules 2 (some .int) (sf_rm 2 125) (fun av σ => (gX12_rules av σ).map sf_vI) :=
  sf_met (tab := tX12_rules) (J := jX12_rules) (fl := sf_fl12) (cl := sf_cl12) (by decide +kernel) ⟨rfl, rfl⟩ sf_RH_I (by decide +kernel) sf_fl12_ok sf_cl12_ok
    (sf_JO_cons (sf_je_S (n := 3) (tv := sf_vI) (kX12_in l) mwX12_in (by decide +kernel : decode cX12_rules 6 = .ok (.invokestatic 132, 3)) wt_1378 wt_1379 (by decide +kernel) (sf_RM_of (by omega) (by omega))) (sf_JO_nil))
    (fun Wt Post hs hm => rX12_rules hs hm)
