/-! ===== 17.X9 ===== -/
-- ===== StreamFuser$Walk.restart(II)V =====
abbrev tX9_restart : List (Nat × sf_E) := [(0, (.iload_n 1, 1, 0, .null, [], [])), (1, (.iconst 0, 2, 0, .int (0), [], [])), (2, (.invokestatic 19, 5, 0, .null, [], [])), (5, (.istore_n 3, 6, 0, .null, [], [])), (6, (.iload_n 3, 7, 0, .null, [], [])), (7, (.iload_n 2, 8, 0, .null, [], [])), (8, (.if_icmp .ge 34, 11, 42, .null, [], [])), (11, (.iload_n 3, 12, 0, .null, [], [])), (12, (.aload_n 0, 13, 0, .null, [], [])), (13, (.getfield 25, 16, 0, .null, [], [(0, 2), (1, 0), (8, 2)])), (16, (.getfield 29, 19, 0, .null, [], [(2, 4)])), (19, (.if_icmp .ge 23, 22, 42, .null, [], [])), (22, (.aload_n 0, 23, 0, .null, [], [])), (23, (.getfield 9, 26, 0, .null, [], [(0, 0), (8, 0)])), (26, (.iload_n 3, 27, 0, .null, [], [])), (27, (.iconst 0, 28, 0, .int (0), [], [])), (28, (.iastore, 29, 0, .null, [], [])), (29, (.aload_n 0, 30, 0, .null, [], [])), (30, (.getfield 15, 33, 0, .null, [], [(0, 1), (8, 1)])), (33, (.iload_n 3, 34, 0, .null, [], [])), (34, (.iconst 0, 35, 0, .int (0), [], [])), (35, (.bastore, 36, 0, .null, [], [])), (36, (.iinc 3 1, 39, 0, .int (1), [], [])), (39, (.goto (-33), 42, 6, .null, [], [])), (42, (.return_, 43, 0, .null, [], []))]
noncomputable abbrev jX9_restart : List (Nat × sf_J sf_S) := [(2, sf_jmax)]
abbrev wX9_restart_6 {ρ : Type} (q : Nat) (k : Int32 → Int32 → sf_S → Option ρ) : sf_M ρ := fun L st σ => sf_lda L 0 fun a0 => sf_eq a0 q (sf_ldi L 2 fun x2 => sf_ldi L 3 fun x3 => sf_nil st (k x2 x3 σ))
theorem wX9_restart_6_ok {ρ : Type} {Wt : Nat → sf_L → List Value → sf_S → Prop} {Post : ρ → Prop} (hm : sf_mono Wt) {q : Nat} {k : Int32 → Int32 → sf_S → Option ρ} (h : ∀ (x2 : Int32) (x3 : Int32) (σ : sf_S) (u : ρ), k x2 x3 σ = some u → Post u → Wt 6 [(0, some (.ref q)), (2, some (.int x2)), (3, some (.int x3))] [] σ) : sf_CK Wt Post 6 (wX9_restart_6 q k) := by
  intro L st σ u hf hp
  unfold wX9_restart_6 at hf
  have hf0 := hf
  obtain ⟨a0, e0, hf1⟩ := sf_lda_inv hf0
  obtain ⟨rfl, hf2⟩ := sf_eq_inv hf1
  obtain ⟨x2, e2, hf3⟩ := sf_ldi_inv hf2
  obtain ⟨x3, e3, hf4⟩ := sf_ldi_inv hf3
  obtain ⟨rfl, hz⟩ := sf_nil_inv hf4
  exact hm _ [(0, some (.ref _)), (2, some (.int x2)), (3, some (.int x3))] _ _ _ (sf_le_ok (And.intro e0 (And.intro e2 (And.intro e3 trivial)))) (h _ _ _ _ hz hp)
noncomputable def dX9_restart_6 (q : Nat) : Nat → Int32 → Int32 → sf_S → Option sf_S
  | 0 => fun _ _ _ => none
  | n + 1 => fun x2 x3 σ =>
    if x2 ≤ x3 then
      some σ
    else
      if (σ (sf_pl q) 4) ≤ x3 then
        some σ
      else
        if sf_in x3 40 then
          let s1 := sf_up σ (q + 1) x3.toNatClampNeg (0 : Int32)
          if sf_in x3 40 then
            let s2 := sf_up s1 (q + 2) x3.toNatClampNeg (vp_nar .boolean (0 : Int32))
            dX9_restart_6 q n x2 (x3 + (1 : Int32)) s2
          else
            none
        else
          none
set_option maxRecDepth 100000 in
set_option maxHeartbeats 4000000 in
theorem rX9_restart_6 {Wt : Nat → sf_L → List Value → sf_S → Prop} {Post : sf_S → Prop} (hs : sf_Snd Wt sf_layC sf_hV jX9_restart tX9_restart Post) (hm : sf_mono Wt) {q : Nat} (hq : q = 23 ∨ q = 55 ∨ q = 27) : ∀ n : Nat, sf_CK Wt Post 6 (wX9_restart_6 q (dX9_restart_6 q n)) := by
  intro n
  induction n with
  | zero => exact wX9_restart_6_ok hm (fun x2 x3 σ u h _ => by simp [dX9_restart_6] at h)
  | succ n ih =>
    refine wX9_restart_6_ok hm ?_
    intro x2 x3 σ u h hp
    rcases hq with rfl | rfl | rfl
    · exact sf_run_ok hs (sf_sm_cons ih sf_sm_nil) 30 6 _ _ σ u h hp
    · exact sf_run_ok hs (sf_sm_cons ih sf_sm_nil) 30 6 _ _ σ u h hp
    · exact sf_run_ok hs (sf_sm_cons ih sf_sm_nil) 30 6 _ _ σ u h hp
noncomputable def dX9_restart (q : Nat) (x1 : Int32) (x2 : Int32) (σ : sf_S) : Option sf_S :=
  let v1 := (if x1 < (0 : Int32) then (0 : Int32) else x1)
  dX9_restart_6 q sf_F x2 v1 σ
noncomputable abbrev gX9_restart (av : List Value) (σ : sf_S) : Option sf_S := match av with
  | [.ref q, .int x1, .int x2] => (match sf_rv [23, 55, 27] q with | true => dX9_restart q x1 x2 σ | false => none)
  | _ => none
set_option maxRecDepth 100000 in
set_option maxHeartbeats 4000000 in
theorem rX9_restart {Wt : Nat → sf_L → List Value → sf_S → Prop} {Post : sf_S → Prop} (hs : sf_Snd Wt sf_layC sf_hV jX9_restart tX9_restart Post) (hm : sf_mono Wt) : ∀ av σ u, gX9_restart av σ = some u → Post u → (∀ ad, (lg_sl (av.map (sf_v ad))).length ≤ 4) ∧ Wt 0 (sf_ent 0 av) [] σ := by
  intro av σ u h hp
  unfold gX9_restart at h
  split at h
  · rename_i q x1 x2
    split at h
    · rename_i hq
      have hq : q = 23 ∨ q = 55 ∨ q = 27 := by simpa using sf_rv_mem hq
      refine ⟨fun ad => Nat.le_of_ble_eq_true rfl, ?_⟩
      rcases hq with rfl | rfl | rfl
      · exact sf_run_ok hs (sf_sm_cons (rX9_restart_6 hs hm (Or.inl rfl) sf_F) sf_sm_nil) 30 0 _ _ σ u h hp
      · exact sf_run_ok hs (sf_sm_cons (rX9_restart_6 hs hm (Or.inr (Or.inl rfl)) sf_F) sf_sm_nil) 30 0 _ _ σ u h hp
      · exact sf_run_ok hs (sf_sm_cons (rX9_restart_6 hs hm (Or.inr (Or.inr rfl)) sf_F) sf_sm_nil) 30 0 _ _ σ u h hp
    · cases h
  · cases h
theorem kX9_restart (l : Launch) : sf_C l sf_layC yX9_restart cX9_restart 4 none (sf_rm 1 100) (fun av σ => (gX9_restart av σ).map sf_vV) :=
  sf_met (tab := tX9_restart) (J := jX9_restart) (fl := sf_fl9) (cl := sf_cl9) (by decide +kernel) ⟨rfl, rfl⟩ sf_RH_V (by decide +kernel) sf_fl9_ok sf_cl9_ok
    (sf_JO_cons (sf_je_max (by decide +kernel : decode cX9_restart 2 = .ok (.invokestatic 19, 3)) wt_634 wt_547 wt_89 wt_548 (sf_RB_of (by omega) (by omega))) (sf_JO_nil))
    (fun Wt Post hs hm => rX9_restart hs hm)
-- ===== StreamFuser$Walk.open(II)V =====
abbrev tX9_open : List (Nat × sf_E) := [(0, (.aload_n 0, 1, 0, .null, [], [])), (1, (.getfield 25, 4, 0, .null, [], [(0, 2), (1, 0), (8, 2)])), (4, (.iload_n 1, 5, 0, .null, [], [])), (5, (.invokevirtual 35, 8, 0, .null, [], [])), (8, (.ifCond .ne 4, 11, 12, .null, [], [])), (11, (.return_, 12, 0, .null, [], [])), (12, (.aload_n 0, 13, 0, .null, [], [])), (13, (.getfield 39, 16, 0, .null, [], [(0, 5), (1, 3), (8, 5)])), (16, (.iload_n 1, 17, 0, .null, [], [])), (17, (.iload_n 2, 18, 0, .null, [], [])), (18, (.iastore, 19, 0, .null, [], [])), (19, (.aload_n 0, 20, 0, .null, [], [])), (20, (.getfield 15, 23, 0, .null, [], [(0, 1), (8, 1)])), (23, (.iload_n 1, 24, 0, .null, [], [])), (24, (.iconst 1, 25, 0, .int (1), [], [])), (25, (.bastore, 26, 0, .null, [], [])), (26, (.aload_n 0, 27, 0, .null, [], [])), (27, (.iload_n 1, 28, 0, .null, [], [])), (28, (.iconst 1, 29, 0, .int (1), [], [])), (29, (.iadd, 30, 0, .null, [], [])), (30, (.aload_n 0, 31, 0, .null, [], [])), (31, (.getfield 25, 34, 0, .null, [], [(0, 2), (1, 0), (8, 2)])), (34, (.iload_n 1, 35, 0, .null, [], [])), (35, (.invokevirtual 42, 38, 0, .null, [], [])), (38, (.invokevirtual 46, 41, 0, .null, [], [])), (41, (.return_, 42, 0, .null, [], []))]
noncomputable abbrev jX9_open : List (Nat × sf_J sf_S) := [(5, sf_jI sf_layC [2] 2 gX2_has), (35, sf_jI sf_layC [2] 2 gX2_secondPart), (38, sf_jV sf_layC [0,8] 3 gX9_restart)]
noncomputable def dX9_open (q : Nat) (x1 : Int32) (x2 : Int32) (σ : sf_S) : Option sf_S :=
  (dX2_has (sf_pl q) x1 σ).bind fun u1 =>
  if ¬ u1.1 = 0 then
    if sf_in x1 40 then
      let s2 := sf_up u1.2 (sf_op q) x1.toNatClampNeg x2
      if sf_in x1 40 then
        let s3 := sf_up s2 (q + 2) x1.toNatClampNeg (vp_nar .boolean (1 : Int32))
        (dX2_secondPart (sf_pl q) x1 s3).bind fun u4 =>
        (dX9_restart q (x1 + (1 : Int32)) u4.1 u4.2).bind fun u5 =>
        some u5
      else
        none
    else
      none
  else
    some u1.2
noncomputable abbrev gX9_open (av : List Value) (σ : sf_S) : Option sf_S := match av with
  | [.ref q, .int x1, .int x2] => (match sf_rv [23, 55, 27] q with | true => dX9_open q x1 x2 σ | false => none)
  | _ => none
set_option maxRecDepth 100000 in
set_option maxHeartbeats 4000000 in
theorem rX9_open {Wt : Nat → sf_L → List Value → sf_S → Prop} {Post : sf_S → Prop} (hs : sf_Snd Wt sf_layC sf_hV jX9_open tX9_open Post) (hm : sf_mono Wt) : ∀ av σ u, gX9_open av σ = some u → Post u → (∀ ad, (lg_sl (av.map (sf_v ad))).length ≤ 3) ∧ Wt 0 (sf_ent 0 av) [] σ := by
  intro av σ u h hp
  unfold gX9_open at h
  split at h
  · rename_i q x1 x2
    split at h
    · rename_i hq
      have hq : q = 23 ∨ q = 55 ∨ q = 27 := by simpa using sf_rv_mem hq
      refine ⟨fun ad => Nat.le_of_ble_eq_true rfl, ?_⟩
      rcases hq with rfl | rfl | rfl
      · exact sf_run_ok hs sf_sm_nil 31 0 _ _ σ u h hp
      · exact sf_run_ok hs sf_sm_nil 31 0 _ _ σ u h hp
      · exact sf_run_ok hs sf_sm_nil 31 0 _ _ σ u h hp
    · cases h
  · cases h
theorem kX9_open (l : Launch) : sf_C l sf_layC yX9_open cX9_open 3 none (sf_rm 2 123) (fun av σ => (gX9_open av σ).map sf_vV) :=
  sf_met (tab := tX9_open) (J := jX9_open) (fl := sf_fl9) (cl := sf_cl9) (by decide +kernel) ⟨rfl, rfl⟩ sf_RH_V (by decide +kernel) sf_fl9_ok sf_cl9_ok
    (sf_JO_cons (sf_je_N (n := 2) (cs := [2]) (tv := sf_vI) "StreamFuser" (kX2_has l) mwX2_has (by decide +kernel : decode cX9_open 5 = .ok (.invokevirtual 35, 3)) wt_720 wt_470 wt_0 (by decide +kernel) (by decide) (by decide) (List.forall_mem_cons.mpr ⟨⟨_, _, rfl⟩, fun _ h => absurd h List.not_mem_nil⟩) (sf_RM_of (by omega) (by omega))) (sf_JO_cons (sf_je_N (n := 2) (cs := [2]) (tv := sf_vI) "StreamFuser" (kX2_secondPart l) mwX2_secondPart (by decide +kernel : decode cX9_open 35 = .ok (.invokevirtual 42, 3)) wt_721 wt_514 wt_8 (by decide +kernel) (by decide) (by decide) (List.forall_mem_cons.mpr ⟨⟨_, _, rfl⟩, fun _ h => absurd h List.not_mem_nil⟩) (sf_RM_of (by omega) (by omega))) (sf_JO_cons (sf_je_U (n := 3) (cs := [0, 8]) (tv := sf_vV) (kX9_restart l) mwX9_restart (by decide +kernel : decode cX9_open 38 = .ok (.invokevirtual 46, 3)) wt_722 wt_632 wt_1063 rfl (by decide +kernel) (by decide) (by decide) (List.forall_mem_cons.mpr ⟨⟨_, _, _, rfl, wt_1064⟩, List.forall_mem_cons.mpr ⟨⟨_, _, _, rfl, wt_1065⟩, fun _ h => absurd h List.not_mem_nil⟩⟩) (sf_RM_of (by omega) (by omega))) (sf_JO_nil))))
    (fun Wt Post hs hm => rX9_open hs hm)
-- ===== StreamFuser$Walk.produce(I)Z =====
abbrev tX9_produce : List (Nat × sf_E) := [(0, (.aload_n 0, 1, 0, .null, [], [])), (1, (.getfield 25, 4, 0, .null, [], [(0, 2), (1, 0), (8, 2)])), (4, (.iload_n 1, 5, 0, .null, [], [])), (5, (.invokevirtual 35, 8, 0, .null, [], [])), (8, (.ifCond .eq 11, 11, 19, .null, [], [])), (11, (.aload_n 0, 12, 0, .null, [], [])), (12, (.iload_n 1, 13, 0, .null, [], [])), (13, (.invokevirtual 50, 16, 0, .null, [], [])), (16, (.ifCond .ne 5, 19, 21, .null, [], [])), (19, (.iconst 0, 20, 0, .int (0), [], [])), (20, (.ireturn, 21, 0, .null, [], [])), (21, (.aload_n 0, 22, 0, .null, [], [])), (22, (.getfield 9, 25, 0, .null, [], [(0, 0), (8, 0)])), (25, (.iload_n 1, 26, 0, .null, [], [])), (26, (.iaload, 27, 0, .null, [], [])), (27, (.i2l, 28, 0, .null, [], [])), (28, (.aload_n 0, 29, 0, .null, [], [])), (29, (.iload_n 1, 30, 0, .null, [], [])), (30, (.invokevirtual 53, 33, 0, .null, [], [])), (33, (.lcmp, 34, 0, .null, [], [])), (34, (.ifCond .ge 14, 37, 48, .null, [], [])), (37, (.aload_n 0, 38, 0, .null, [], [])), (38, (.getfield 57, 41, 0, .null, [], [(0, 3), (1, 1), (8, 3)])), (41, (.iconst 1, 42, 0, .int (1), [], [])), (42, (.invokevirtual 61, 45, 0, .null, [], [])), (45, (.ifCond .ne 5, 48, 50, .null, [], [])), (48, (.iconst 0, 49, 0, .int (0), [], [])), (49, (.ireturn, 50, 0, .null, [], [])), (50, (.aload_n 0, 51, 0, .null, [], [])), (51, (.aload_n 0, 52, 0, .null, [], [])), (52, (.iload_n 1, 53, 0, .null, [], [])), (53, (.aload_n 0, 54, 0, .null, [], [])), (54, (.getfield 9, 57, 0, .null, [], [(0, 0), (8, 0)])), (57, (.iload_n 1, 58, 0, .null, [], [])), (58, (.iaload, 59, 0, .null, [], [])), (59, (.invokevirtual 66, 62, 0, .null, [], [])), (62, (.putfield 69, 65, 0, .null, [], [(0, 6), (1, 4), (8, 6)])), (65, (.aload_n 0, 66, 0, .null, [], [])), (66, (.getfield 9, 69, 0, .null, [], [(0, 0), (8, 0)])), (69, (.iload_n 1, 70, 0, .null, [], [])), (70, (.dup2, 71, 0, .null, [], [])), (71, (.iaload, 72, 0, .null, [], [])), (72, (.iconst 1, 73, 0, .int (1), [], [])), (73, (.iadd, 74, 0, .null, [], [])), (74, (.iastore, 75, 0, .null, [], [])), (75, (.iconst 1, 76, 0, .int (1), [], [])), (76, (.ireturn, 77, 0, .null, [], []))]
noncomputable abbrev jX9_produce : List (Nat × sf_J (Int32 × sf_S)) := [(5, sf_jI sf_layC [2] 2 gX2_has), (13, sf_jI sf_layC [0,8] 2 gX10_isReady), (30, sf_jL sf_layC [0,8] 2 gX10_supply), (42, sf_jI sf_layC [6] 2 gX6_draw), (59, sf_jI sf_layC [0,8] 3 gX10_supplied)]
noncomputable def dX9_produce (q : Nat) (x1 : Int32) (σ : sf_S) : Option (Int32 × sf_S) :=
  (dX2_has (sf_pl q) x1 σ).bind fun u1 =>
  if u1.1 = 0 then
    some ((0 : Int32), u1.2)
  else
    (dX10_isReady q x1 u1.2).bind fun u2 =>
    if ¬ u2.1 = 0 then
      if sf_in x1 40 then
        (dX10_supply q x1 u2.2).bind fun u3 =>
        if 0 ≤ (lg_cmp ((u2.2 (q + 1) x1.toNatClampNeg)).toInt64 u3.1) then
          some ((0 : Int32), u3.2)
        else
          (dX6_draw (sf_rn q) (1 : Int32) u3.2).bind fun u4 =>
          if ¬ u4.1 = 0 then
            if sf_in x1 40 then
              (dX10_supplied q x1 (u4.2 (q + 1) x1.toNatClampNeg) u4.2).bind fun u5 =>
              let s6 := sf_up u5.2 q (sf_vl q) u5.1
              if sf_in x1 40 then
                if sf_in x1 40 then
                  let s7 := sf_up s6 (q + 1) x1.toNatClampNeg ((s6 (q + 1) x1.toNatClampNeg) + (1 : Int32))
                  some ((1 : Int32), s7)
                else
                  none
              else
                none
            else
              none
          else
            some ((0 : Int32), u4.2)
      else
        none
    else
      some ((0 : Int32), u2.2)
noncomputable abbrev gX9_produce (av : List Value) (σ : sf_S) : Option (Int32 × sf_S) := match av with
  | [.ref q, .int x1] => (match sf_rv [23, 55, 27] q with | true => dX9_produce q x1 σ | false => none)
  | _ => none
set_option maxRecDepth 100000 in
set_option maxHeartbeats 4000000 in
theorem rX9_produce {Wt : Nat → sf_L → List Value → sf_S → Prop} {Post : (Int32 × sf_S) → Prop} (hs : sf_Snd Wt sf_layC sf_hZ jX9_produce tX9_produce Post) (hm : sf_mono Wt) : ∀ av σ u, gX9_produce av σ = some u → Post u → (∀ ad, (lg_sl (av.map (sf_v ad))).length ≤ 2) ∧ Wt 0 (sf_ent 0 av) [] σ := by
  intro av σ u h hp
  unfold gX9_produce at h
  split at h
  · rename_i q x1
    split at h
    · rename_i hq
      have hq : q = 23 ∨ q = 55 ∨ q = 27 := by simpa using sf_rv_mem hq
      refine ⟨fun ad => Nat.le_of_ble_eq_true rfl, ?_⟩
      rcases hq with rfl | rfl | rfl
      · exact sf_run_ok hs sf_sm_nil 52 0 _ _ σ u h hp
      · exact sf_run_ok hs sf_sm_nil 52 0 _ _ σ u h hp
      · exact sf_run_ok hs sf_sm_nil 52 0 _ _ σ u h hp
    · cases h
  · cases h
theorem kX9_produce (l : Launch) : sf_C l sf_layC yX9_produce cX9_produce 2 (some .boolean) (sf_rm 3 144) (fun av σ => (gX9_produce av σ).map sf_vI) :=
  sf_met (tab := tX9_produce) (J := jX9_produce) (fl := sf_fl9) (cl := sf_cl9) (by decide +kernel) ⟨rfl, rfl⟩ sf_RH_Z (by decide +kernel) sf_fl9_ok sf_cl9_ok
    (sf_JO_cons (sf_je_N (n := 2) (cs := [2]) (tv := sf_vI) "StreamFuser" (kX2_has l) mwX2_has (by decide +kernel : decode cX9_produce 5 = .ok (.invokevirtual 35, 3)) wt_720 wt_470 wt_0 (by decide +kernel) (by decide) (by decide) (List.forall_mem_cons.mpr ⟨⟨_, _, rfl⟩, fun _ h => absurd h List.not_mem_nil⟩) (sf_RM_of (by omega) (by omega))) (sf_JO_cons (sf_je_U (n := 2) (cs := [0, 8]) (tv := sf_vI) (kX10_isReady l) mwX10_isReady (by decide +kernel : decode cX9_produce 13 = .ok (.invokevirtual 50, 3)) wt_729 wt_734 wt_730 rfl (by decide +kernel) (by decide) (by decide) (List.forall_mem_cons.mpr ⟨⟨_, _, _, rfl, wt_732⟩, List.forall_mem_cons.mpr ⟨⟨_, _, _, rfl, wt_733⟩, fun _ h => absurd h List.not_mem_nil⟩⟩) (sf_RM_of (by omega) (by omega))) (sf_JO_cons (sf_je_U (n := 2) (cs := [0, 8]) (tv := sf_vL) (kX10_supply l) mwX10_supply (by decide +kernel : decode cX9_produce 30 = .ok (.invokevirtual 53, 3)) wt_741 wt_746 wt_742 rfl (by decide +kernel) (by decide) (by decide) (List.forall_mem_cons.mpr ⟨⟨_, _, _, rfl, wt_744⟩, List.forall_mem_cons.mpr ⟨⟨_, _, _, rfl, wt_745⟩, fun _ h => absurd h List.not_mem_nil⟩⟩) (sf_RM_of (by omega) (by omega))) (sf_JO_cons (sf_je_N (n := 2) (cs := [6]) (tv := sf_vI) "StreamFuser" (kX6_draw l) mwX6_draw (by decide +kernel : decode cX9_produce 42 = .ok (.invokevirtual 61, 3)) wt_763 wt_765 wt_41 (by decide +kernel) (by decide) (by decide) (List.forall_mem_cons.mpr ⟨⟨_, _, rfl⟩, fun _ h => absurd h List.not_mem_nil⟩) (sf_RM_of (by omega) (by omega))) (sf_JO_cons (sf_je_U (n := 3) (cs := [0, 8]) (tv := sf_vI) (kX10_supplied l) mwX10_supplied (by decide +kernel : decode cX9_produce 59 = .ok (.invokevirtual 66, 3)) wt_768 wt_773 wt_769 rfl (by decide +kernel) (by decide) (by decide) (List.forall_mem_cons.mpr ⟨⟨_, _, _, rfl, wt_771⟩, List.forall_mem_cons.mpr ⟨⟨_, _, _, rfl, wt_772⟩, fun _ h => absurd h List.not_mem_nil⟩⟩) (sf_RM_of (by omega) (by omega))) (sf_JO_nil))))))
    (fun Wt Post hs hm => rX9_produce hs hm)
