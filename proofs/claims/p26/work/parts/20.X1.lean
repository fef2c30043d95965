/-! ===== 20.X1 ===== -/
noncomputable abbrev gX1_makeG (G : Int32 → Int32 → sf_S → Option (Int32 × sf_S)) (av : List Value) (σ : sf_S) : Option (Int32 × sf_S) := match av with
  | [.ref q, .int x1, .int x2] => (match sf_rv [32] q with | true => G x1 x2 σ | false => none)
  | _ => none
-- ===== StreamFuser$Maker.addRow(II)Z =====
abbrev tX1_addRow : List (Nat × sf_E) := [(0, (.aload_n 0, 1, 0, .null, [], [])), (1, (.getfield 36, 4, 0, .null, [], [(0, 2), (1, 0), (8, 2)])), (4, (.iload_n 1, 5, 0, .null, [], [])), (5, (.invokevirtual 40, 8, 0, .null, [], [])), (8, (.ifCond .eq 14, 11, 22, .null, [], [])), (11, (.aload_n 0, 12, 0, .null, [], [])), (12, (.getfield 36, 15, 0, .null, [], [(0, 2), (1, 0), (8, 2)])), (15, (.iload_n 2, 16, 0, .null, [], [])), (16, (.invokevirtual 40, 19, 0, .null, [], [])), (19, (.ifCond .ne 5, 22, 24, .null, [], [])), (22, (.iconst 0, 23, 0, .int (0), [], [])), (23, (.ireturn, 24, 0, .null, [], [])), (24, (.aload_n 0, 25, 0, .null, [], [])), (25, (.getfield 15, 28, 0, .null, [], [(1, 6)])), (28, (.iload_n 1, 29, 0, .null, [], [])), (29, (.iaload, 30, 0, .null, [], [])), (30, (.aload_n 0, 31, 0, .null, [], [])), (31, (.getfield 15, 34, 0, .null, [], [(1, 6)])), (34, (.iload_n 2, 35, 0, .null, [], [])), (35, (.iaload, 36, 0, .null, [], [])), (36, (.iadd, 37, 0, .null, [], [])), (37, (.bipush 60, 39, 0, .int (60), [], [])), (39, (.if_icmp .le 22, 42, 61, .null, [], [])), (42, (.aload_n 0, 43, 0, .null, [], [])), (43, (.getfield 18, 46, 0, .null, [], [(0, 3), (1, 1), (8, 3)])), (46, (.iconst 4, 47, 0, .int (4), [], [])), (47, (.aload_n 0, 48, 0, .null, [], [])), (48, (.getfield 36, 51, 0, .null, [], [(0, 2), (1, 0), (8, 2)])), (51, (.getfield 94, 54, 0, .null, [], [(2, 7)])), (54, (.iload_n 1, 55, 0, .null, [], [])), (55, (.iaload, 56, 0, .null, [], [])), (56, (.invokevirtual 97, 59, 0, .null, [], [])), (59, (.iconst 0, 60, 0, .int (0), [], [])), (60, (.ireturn, 61, 0, .null, [], [])), (61, (.aload_n 0, 62, 0, .null, [], [])), (62, (.getfield 9, 65, 0, .null, [], [(1, 5)])), (65, (.iload_n 2, 66, 0, .null, [], [])), (66, (.bipush 60, 68, 0, .int (60), [], [])), (68, (.imul, 69, 0, .null, [], [])), (69, (.aload_n 0, 70, 0, .null, [], [])), (70, (.getfield 9, 73, 0, .null, [], [(1, 5)])), (73, (.iload_n 1, 74, 0, .null, [], [])), (74, (.bipush 60, 76, 0, .int (60), [], [])), (76, (.imul, 77, 0, .null, [], [])), (77, (.aload_n 0, 78, 0, .null, [], [])), (78, (.getfield 15, 81, 0, .null, [], [(1, 6)])), (81, (.iload_n 1, 82, 0, .null, [], [])), (82, (.iaload, 83, 0, .null, [], [])), (83, (.iadd, 84, 0, .null, [], [])), (84, (.aload_n 0, 85, 0, .null, [], [])), (85, (.getfield 15, 88, 0, .null, [], [(1, 6)])), (88, (.iload_n 2, 89, 0, .null, [], [])), (89, (.iaload, 90, 0, .null, [], [])), (90, (.invokestatic 128, 93, 0, .null, [], [])), (93, (.aload_n 0, 94, 0, .null, [], [])), (94, (.getfield 15, 97, 0, .null, [], [(1, 6)])), (97, (.iload_n 1, 98, 0, .null, [], [])), (98, (.dup2, 99, 0, .null, [], [])), (99, (.iaload, 100, 0, .null, [], [])), (100, (.aload_n 0, 101, 0, .null, [], [])), (101, (.getfield 15, 104, 0, .null, [], [(1, 6)])), (104, (.iload_n 2, 105, 0, .null, [], [])), (105, (.iaload, 106, 0, .null, [], [])), (106, (.iadd, 107, 0, .null, [], [])), (107, (.iastore, 108, 0, .null, [], [])), (108, (.iconst 1, 109, 0, .int (1), [], [])), (109, (.ireturn, 110, 0, .null, [], []))]
noncomputable abbrev jX1_addRow : List (Nat × sf_J (Int32 × sf_S)) := [(5, sf_jI sf_layC [2] 2 gX2_has), (16, sf_jI sf_layC [2] 2 gX2_has), (56, sf_jV sf_layC [6] 3 gX6_fail), (90, sf_jcpy sf_layC)]
noncomputable def dX1_addRow (x1 : Int32) (x2 : Int32) (σ : sf_S) : Option (Int32 × sf_S) :=
  (dX2_has 1 x1 σ).bind fun u1 =>
  if u1.1 = 0 then
    some ((0 : Int32), u1.2)
  else
    (dX2_has 1 x2 u1.2).bind fun u2 =>
    if ¬ u2.1 = 0 then
      if sf_in x1 40 then
        if sf_in x2 40 then
          if ((u2.2 35 x1.toNatClampNeg) + (u2.2 35 x2.toNatClampNeg)) ≤ (60 : Int32) then
            if sf_in x1 40 then
              if sf_in x2 40 then
                let v3 := (x2 * (60 : Int32))
                let v4 := ((x1 * (60 : Int32)) + (u2.2 35 x1.toNatClampNeg))
                let v5 := (u2.2 35 x2.toNatClampNeg)
                if !(decide (v3 < 0)) && !(decide (v4 < 0)) && !(decide (v5 < 0)) && Nat.ble (v3.toNatClampNeg + v5.toNatClampNeg) 2400 && Nat.ble (v4.toNatClampNeg + v5.toNatClampNeg) 2400 then
                  let s6 := sf_cpy u2.2 34 v3 v4 v5
                  if sf_in x1 40 then
                    if sf_in x2 40 then
                      if sf_in x1 40 then
                        let s7 := sf_up s6 35 x1.toNatClampNeg ((s6 35 x1.toNatClampNeg) + (s6 35 x2.toNatClampNeg))
                        some ((1 : Int32), s7)
                      else
                        none
                    else
                      none
                  else
                    none
                else
                  none
              else
                none
            else
              none
          else
            if sf_in x1 40 then
              (dX6_fail 19 (4 : Int32) (u2.2 8 x1.toNatClampNeg) u2.2).bind fun u8 =>
              some ((0 : Int32), u8)
            else
              none
        else
          none
      else
        none
    else
      some ((0 : Int32), u2.2)
noncomputable abbrev gX1_addRow (av : List Value) (σ : sf_S) : Option (Int32 × sf_S) := match av with
  | [.ref q, .int x1, .int x2] => (match sf_rv [32] q with | true => dX1_addRow x1 x2 σ | false => none)
  | _ => none
set_option maxRecDepth 100000 in
set_option maxHeartbeats 4000000 in
theorem rX1_addRow {Wt : Nat → sf_L → List Value → sf_S → Prop} {Post : (Int32 × sf_S) → Prop} (hs : sf_Snd Wt sf_layC sf_hZ jX1_addRow tX1_addRow Post) (hm : sf_mono Wt) : ∀ av σ u, gX1_addRow av σ = some u → Post u → (∀ ad, (lg_sl (av.map (sf_v ad))).length ≤ 3) ∧ Wt 0 (sf_ent 0 av) [] σ := by
  intro av σ u h hp
  unfold gX1_addRow at h
  split at h
  · rename_i q x1 x2
    split at h
    · rename_i hq
      have hq : q = 32 := by simpa using sf_rv_mem hq
      subst hq
      refine ⟨fun ad => Nat.le_of_ble_eq_true rfl, ?_⟩
      exact sf_run_ok hs sf_sm_nil 72 0 _ _ σ u h hp
    · cases h
  · cases h
theorem kX1_addRow (l : Launch) : sf_C l sf_layC yX1_addRow cX1_addRow 3 (some .boolean) (sf_rm 2 122) (fun av σ => (gX1_addRow av σ).map sf_vI) :=
  sf_met (tab := tX1_addRow) (J := jX1_addRow) (fl := sf_fl1) (cl := sf_cl1) (by decide +kernel) ⟨rfl, rfl⟩ sf_RH_Z (by decide +kernel) sf_fl1_ok sf_cl1_ok
    (sf_JO_cons (sf_je_N (n := 2) (cs := [2]) (tv := sf_vI) "StreamFuser" (kX2_has l) mwX2_has (by decide +kernel : decode cX1_addRow 5 = .ok (.invokevirtual 40, 3)) wt_849 wt_470 wt_0 (by decide +kernel) (by decide) (by decide) (List.forall_mem_cons.mpr ⟨⟨_, _, rfl⟩, fun _ h => absurd h List.not_mem_nil⟩) (sf_RM_of (by omega) (by omega))) (sf_JO_cons (sf_je_N (n := 2) (cs := [2]) (tv := sf_vI) "StreamFuser" (kX2_has l) mwX2_has (by decide +kernel : decode cX1_addRow 16 = .ok (.invokevirtual 40, 3)) wt_849 wt_470 wt_0 (by decide +kernel) (by decide) (by decide) (List.forall_mem_cons.mpr ⟨⟨_, _, rfl⟩, fun _ h => absurd h List.not_mem_nil⟩) (sf_RM_of (by omega) (by omega))) (sf_JO_cons (sf_je_N (n := 3) (cs := [6]) (tv := sf_vV) "StreamFuser" (kX6_fail l) mwX6_fail (by decide +kernel : decode cX1_addRow 56 = .ok (.invokevirtual 97, 3)) wt_866 wt_653 wt_30 (by decide +kernel) (by decide) (by decide) (List.forall_mem_cons.mpr ⟨⟨_, _, rfl⟩, fun _ h => absurd h List.not_mem_nil⟩) (sf_RM_of (by omega) (by omega))) (sf_JO_cons (sf_je_cpy (by decide +kernel : decode cX1_addRow 90 = .ok (.invokestatic 128, 3)) wt_888 wt_890 wt_889 wt_90 (sf_RB_of (by omega) (by omega)) (by decide +kernel)) (sf_JO_nil)))))
    (fun Wt Post hs hm => rX1_addRow hs hm)
-- ===== StreamFuser$Maker.element(II)I =====
abbrev tX1_element : List (Nat × sf_E) := [(0, (.aload_n 0, 1, 0, .null, [], [])), (1, (.getfield 36, 4, 0, .null, [], [(0, 2), (1, 0), (8, 2)])), (4, (.iload_n 1, 5, 0, .null, [], [])), (5, (.invokevirtual 40, 8, 0, .null, [], [])), (8, (.ifCond .eq 31, 11, 39, .null, [], [])), (11, (.iload_n 2, 12, 0, .null, [], [])), (12, (.ifCond .lt 27, 15, 39, .null, [], [])), (15, (.iload_n 2, 16, 0, .null, [], [])), (16, (.aload_n 0, 17, 0, .null, [], [])), (17, (.getfield 15, 20, 0, .null, [], [(1, 6)])), (20, (.iload_n 1, 21, 0, .null, [], [])), (21, (.iaload, 22, 0, .null, [], [])), (22, (.if_icmp .ge 17, 25, 39, .null, [], [])), (25, (.aload_n 0, 26, 0, .null, [], [])), (26, (.getfield 9, 29, 0, .null, [], [(1, 5)])), (29, (.iload_n 1, 30, 0, .null, [], [])), (30, (.bipush 60, 32, 0, .int (60), [], [])), (32, (.imul, 33, 0, .null, [], [])), (33, (.iload_n 2, 34, 0, .null, [], [])), (34, (.iadd, 35, 0, .null, [], [])), (35, (.iaload, 36, 0, .null, [], [])), (36, (.goto 4, 39, 40, .null, [], [])), (39, (.iconst 0, 40, 0, .int (0), [], [])), (40, (.ireturn, 41, 0, .null, [], []))]
noncomputable abbrev jX1_element : List (Nat × sf_J (Int32 × sf_S)) := [(5, sf_jI sf_layC [2] 2 gX2_has)]
noncomputable def dX1_element (x1 : Int32) (x2 : Int32) (σ : sf_S) : Option (Int32 × sf_S) :=
  (dX2_has 1 x1 σ).bind fun u1 =>
  if u1.1 = 0 then
    some ((0 : Int32), u1.2)
  else
    if x2 < 0 then
      some ((0 : Int32), u1.2)
    else
      if sf_in x1 40 then
        if (u1.2 35 x1.toNatClampNeg) ≤ x2 then
          some ((0 : Int32), u1.2)
        else
          let v2 := ((x1 * (60 : Int32)) + x2)
          if sf_in v2 2400 then
            some ((u1.2 34 v2.toNatClampNeg), u1.2)
          else
            none
      else
        none
noncomputable abbrev gX1_element (av : List Value) (σ : sf_S) : Option (Int32 × sf_S) := match av with
  | [.ref q, .int x1, .int x2] => (match sf_rv [32] q with | true => dX1_element x1 x2 σ | false => none)
  | _ => none
set_option maxRecDepth 100000 in
set_option maxHeartbeats 4000000 in
theorem rX1_element {Wt : Nat → sf_L → List Value → sf_S → Prop} {Post : (Int32 × sf_S) → Prop} (hs : sf_Snd Wt sf_layC sf_hI jX1_element tX1_element Post) (hm : sf_mono Wt) : ∀ av σ u, gX1_element av σ = some u → Post u → (∀ ad, (lg_sl (av.map (sf_v ad))).length ≤ 3) ∧ Wt 0 (sf_ent 0 av) [] σ := by
  intro av σ u h hp
  unfold gX1_element at h
  split at h
  · rename_i q x1 x2
    split at h
    · rename_i hq
      have hq : q = 32 := by simpa using sf_rv_mem hq
      subst hq
      refine ⟨fun ad => Nat.le_of_ble_eq_true rfl, ?_⟩
      exact sf_run_ok hs sf_sm_nil 29 0 _ _ σ u h hp
    · cases h
  · cases h
theorem kX1_element (l : Launch) : sf_C l sf_layC yX1_element cX1_element 3 (some .int) (sf_rm 2 121) (fun av σ => (gX1_element av σ).map sf_vI) :=
  sf_met (tab := tX1_element) (J := jX1_element) (fl := sf_fl1) (cl := sf_cl1) (by decide +kernel) ⟨rfl, rfl⟩ sf_RH_I (by decide +kernel) sf_fl1_ok sf_cl1_ok
    (sf_JO_cons (sf_je_N (n := 2) (cs := [2]) (tv := sf_vI) "StreamFuser" (kX2_has l) mwX2_has (by decide +kernel : decode cX1_element 5 = .ok (.invokevirtual 40, 3)) wt_849 wt_470 wt_0 (by decide +kernel) (by decide) (by decide) (List.forall_mem_cons.mpr ⟨⟨_, _, rfl⟩, fun _ h => absurd h List.not_mem_nil⟩) (sf_RM_of (by omega) (by omega))) (sf_JO_nil))
    (fun Wt Post hs hm => rX1_element hs hm)
-- ===== StreamFuser$Maker.fillByOpening(II)Z =====
abbrev tX1_fillByOpening : List (Nat × sf_E) := [(0, (.aload_n 0, 1, 0, .null, [], [])), (1, (.getfield 36, 4, 0, .null, [], [(0, 2), (1, 0), (8, 2)])), (4, (.iload_n 1, 5, 0, .null, [], [])), (5, (.invokevirtual 66, 8, 0, .null, [], [])), (8, (.istore_n 3, 9, 0, .null, [], [])), (9, (.aload_n 0, 10, 0, .null, [], [])), (10, (.getfield 36, 13, 0, .null, [], [(0, 2), (1, 0), (8, 2)])), (13, (.iload_n 3, 14, 0, .null, [], [])), (14, (.invokevirtual 40, 17, 0, .null, [], [])), (17, (.ifCond .ne 5, 20, 22, .null, [], [])), (20, (.iconst 0, 21, 0, .int (0), [], [])), (21, (.ireturn, 22, 0, .null, [], [])), (22, (.iconst 0, 23, 0, .int (0), [], [])), (23, (.istore 4, 25, 0, .null, [], [])), (25, (.iload 4, 27, 0, .null, [], [])), (27, (.aload_n 0, 28, 0, .null, [], [])), (28, (.getfield 15, 31, 0, .null, [], [(1, 6)])), (31, (.iload_n 3, 32, 0, .null, [], [])), (32, (.iaload, 33, 0, .null, [], [])), (33, (.if_icmp .ge 48, 36, 81, .null, [], [])), (36, (.aload_n 0, 37, 0, .null, [], [])), (37, (.getfield 125, 40, 0, .null, [], [(0, 5), (1, 3), (8, 5)])), (40, (.iload_n 1, 41, 0, .null, [], [])), (41, (.aload_n 0, 42, 0, .null, [], [])), (42, (.iload_n 3, 43, 0, .null, [], [])), (43, (.iload 4, 45, 0, .null, [], [])), (45, (.invokevirtual 110, 48, 0, .null, [], [])), (48, (.iastore, 49, 0, .null, [], [])), (49, (.aload_n 0, 50, 0, .null, [], [])), (50, (.iload_n 1, 51, 0, .null, [], [])), (51, (.iconst 1, 52, 0, .int (1), [], [])), (52, (.iadd, 53, 0, .null, [], [])), (53, (.iload_n 2, 54, 0, .null, [], [])), (54, (.iconst 1, 55, 0, .int (1), [], [])), (55, (.iadd, 56, 0, .null, [], [])), (56, (.invokevirtual 28, 59, 0, .null, [], [])), (59, (.ifCond .eq 14, 62, 73, .null, [], [])), (62, (.aload_n 0, 63, 0, .null, [], [])), (63, (.iload_n 1, 64, 0, .null, [], [])), (64, (.iload_n 1, 65, 0, .null, [], [])), (65, (.iconst 1, 66, 0, .int (1), [], [])), (66, (.iadd, 67, 0, .null, [], [])), (67, (.invokevirtual 78, 70, 0, .null, [], [])), (70, (.ifCond .ne 5, 73, 75, .null, [], [])), (73, (.iconst 0, 74, 0, .int (0), [], [])), (74, (.ireturn, 75, 0, .null, [], [])), (75, (.iinc 4 1, 78, 0, .int (1), [], [])), (78, (.goto (-53), 81, 25, .null, [], [])), (81, (.iconst 1, 82, 0, .int (1), [], [])), (82, (.ireturn, 83, 0, .null, [], []))]
noncomputable abbrev jX1_fillByOpening (G : Int32 → Int32 → sf_S → Option (Int32 × sf_S)) : List (Nat × sf_J (Int32 × sf_S)) := [(5, sf_jI sf_layC [2] 2 gX2_input), (14, sf_jI sf_layC [2] 2 gX2_has), (45, sf_jI sf_layC [1] 3 gX1_element), (56, sf_jI sf_layC [1] 3 (gX1_makeG G)), (67, sf_jI sf_layC [1] 3 gX1_addRow)]
abbrev wX1_fillByOpening_25 {ρ : Type} (k : Int32 → Int32 → Int32 → Int32 → sf_S → Option ρ) : sf_M ρ := fun L st σ => sf_lda L 0 fun a0 => sf_eq a0 32 (sf_ldi L 1 fun x1 => sf_ldi L 2 fun x2 => sf_ldi L 3 fun x3 => sf_ldi L 4 fun x4 => sf_nil st (k x1 x2 x3 x4 σ))
theorem wX1_fillByOpening_25_ok {ρ : Type} {Wt : Nat → sf_L → List Value → sf_S → Prop} {Post : ρ → Prop} (hm : sf_mono Wt) {k : Int32 → Int32 → Int32 → Int32 → sf_S → Option ρ} (h : ∀ (x1 : Int32) (x2 : Int32) (x3 : Int32) (x4 : Int32) (σ : sf_S) (u : ρ), k x1 x2 x3 x4 σ = some u → Post u → Wt 25 [(0, some (.ref 32)), (1, some (.int x1)), (2, some (.int x2)), (3, some (.int x3)), (4, some (.int x4))] [] σ) : sf_CK Wt Post 25 (wX1_fillByOpening_25 k) := by
  intro L st σ u hf hp
  unfold wX1_fillByOpening_25 at hf
  have hf0 := hf
  obtain ⟨a0, e0, hf1⟩ := sf_lda_inv hf0
  obtain ⟨rfl, hf2⟩ := sf_eq_inv hf1
  obtain ⟨x1, e1, hf3⟩ := sf_ldi_inv hf2
  obtain ⟨x2, e2, hf4⟩ := sf_ldi_inv hf3
  obtain ⟨x3, e3, hf5⟩ := sf_ldi_inv hf4
  obtain ⟨x4, e4, hf6⟩ := sf_ldi_inv hf5
  obtain ⟨rfl, hz⟩ := sf_nil_inv hf6
  exact hm _ [(0, some (.ref _)), (1, some (.int x1)), (2, some (.int x2)), (3, some (.int x3)), (4, some (.int x4))] _ _ _ (sf_le_ok (And.intro e0 (And.intro e1 (And.intro e2 (And.intro e3 (And.intro e4 trivial)))))) (h _ _ _ _ _ _ hz hp)
noncomputable def dX1_fillByOpening_25 (G : Int32 → Int32 → sf_S → Option (Int32 × sf_S)) : Nat → Int32 → Int32 → Int32 → Int32 → sf_S → Option (Int32 × sf_S)
  | 0 => fun _ _ _ _ _ => none
  | n + 1 => fun x1 x2 x3 x4 σ =>
    if sf_in x3 40 then
      if (σ 35 x3.toNatClampNeg) ≤ x4 then
        some ((1 : Int32), σ)
      else
        (dX1_element x3 x4 σ).bind fun u1 =>
        if sf_in x1 40 then
          let s2 := sf_up u1.2 33 x1.toNatClampNeg u1.1
          (G (x1 + (1 : Int32)) (x2 + (1 : Int32)) s2).bind fun u3 =>
          if u3.1 = 0 then
            some ((0 : Int32), u3.2)
          else
            (dX1_addRow x1 (x1 + (1 : Int32)) u3.2).bind fun u4 =>
            if ¬ u4.1 = 0 then
              dX1_fillByOpening_25 G n x1 x2 x3 (x4 + (1 : Int32)) u4.2
            else
              some ((0 : Int32), u4.2)
        else
          none
    else
      none
set_option maxRecDepth 100000 in
set_option maxHeartbeats 4000000 in
theorem rX1_fillByOpening_25 {Wt : Nat → sf_L → List Value → sf_S → Prop} {Post : (Int32 × sf_S) → Prop} {G : Int32 → Int32 → sf_S → Option (Int32 × sf_S)} (hs : sf_Snd Wt sf_layC sf_hZ (jX1_fillByOpening G) tX1_fillByOpening Post) (hm : sf_mono Wt) : ∀ n : Nat, sf_CK Wt Post 25 (wX1_fillByOpening_25 (dX1_fillByOpening_25 G n)) := by
  intro n
  induction n with
  | zero => exact wX1_fillByOpening_25_ok hm (fun x1 x2 x3 x4 σ u h _ => by simp [dX1_fillByOpening_25] at h)
  | succ n ih =>
    refine wX1_fillByOpening_25_ok hm ?_
    intro x1 x2 x3 x4 σ u h hp
    exact sf_run_ok hs (sf_sm_cons ih sf_sm_nil) 55 25 _ _ σ u h hp
noncomputable def dX1_fillByOpening (G : Int32 → Int32 → sf_S → Option (Int32 × sf_S)) (x1 : Int32) (x2 : Int32) (σ : sf_S) : Option (Int32 × sf_S) :=
  (dX2_input 1 x1 σ).bind fun u1 =>
  (dX2_has 1 u1.1 u1.2).bind fun u2 =>
  if ¬ u2.1 = 0 then
    dX1_fillByOpening_25 G sf_F x1 x2 u1.1 (0 : Int32) u2.2
  else
    some ((0 : Int32), u2.2)
noncomputable abbrev gX1_fillByOpening (G : Int32 → Int32 → sf_S → Option (Int32 × sf_S)) (av : List Value) (σ : sf_S) : Option (Int32 × sf_S) := match av with
  | [.ref q, .int x1, .int x2] => (match sf_rv [32] q with | true => dX1_fillByOpening G x1 x2 σ | false => none)
  | _ => none
set_option maxRecDepth 100000 in
set_option maxHeartbeats 4000000 in
theorem rX1_fillByOpening {Wt : Nat → sf_L → List Value → sf_S → Prop} {Post : (Int32 × sf_S) → Prop} {G : Int32 → Int32 → sf_S → Option (Int32 × sf_S)} (hs : sf_Snd Wt sf_layC sf_hZ (jX1_fillByOpening G) tX1_fillByOpening Post) (hm : sf_mono Wt) : ∀ av σ u, gX1_fillByOpening G av σ = some u → Post u → (∀ ad, (lg_sl (av.map (sf_v ad))).length ≤ 5) ∧ Wt 0 (sf_ent 0 av) [] σ := by
  intro av σ u h hp
  unfold gX1_fillByOpening at h
  split at h
  · rename_i q x1 x2
    split at h
    · rename_i hq
      have hq : q = 32 := by simpa using sf_rv_mem hq
      subst hq
      refine ⟨fun ad => Nat.le_of_ble_eq_true rfl, ?_⟩
      exact sf_run_ok hs (sf_sm_cons (rX1_fillByOpening_25 hs hm sf_F) sf_sm_nil) 55 0 _ _ σ u h hp
    · cases h
  · cases h
theorem kX1_fillByOpening (l : Launch) {f o : Nat} {G : Int32 → Int32 → sf_S → Option (Int32 × sf_S)} (hG : sf_C l sf_layC yX1_make cX1_make 3 (some .boolean) (sf_rm f o) (fun av σ => (gX1_makeG G av σ).map sf_vI)) : sf_C l sf_layC yX1_fillByOpening cX1_fillByOpening 5 (some .boolean) (sf_rm (f + 9) (o + 350)) (fun av σ => (gX1_fillByOpening G av σ).map sf_vI) :=
  sf_met (tab := tX1_fillByOpening) (J := jX1_fillByOpening G) (fl := sf_fl1) (cl := sf_cl1) (by decide +kernel) ⟨rfl, rfl⟩ sf_RH_Z (by decide +kernel) sf_fl1_ok sf_cl1_ok
    (sf_JO_cons (sf_je_N (n := 2) (cs := [2]) (tv := sf_vI) "StreamFuser" (kX2_input l) mwX2_input (by decide +kernel : decode cX1_fillByOpening 5 = .ok (.invokevirtual 66, 3)) wt_875 wt_518 wt_9 (by decide +kernel) (by decide) (by decide) (List.forall_mem_cons.mpr ⟨⟨_, _, rfl⟩, fun _ h => absurd h List.not_mem_nil⟩) (sf_RM_of (by omega) (by omega))) (sf_JO_cons (sf_je_N (n := 2) (cs := [2]) (tv := sf_vI) "StreamFuser" (kX2_has l) mwX2_has (by decide +kernel : decode cX1_fillByOpening 14 = .ok (.invokevirtual 40, 3)) wt_849 wt_470 wt_0 (by decide +kernel) (by decide) (by decide) (List.forall_mem_cons.mpr ⟨⟨_, _, rfl⟩, fun _ h => absurd h List.not_mem_nil⟩) (sf_RM_of (by omega) (by omega))) (sf_JO_cons (sf_je_V (n := 3) (cs := [1]) (tv := sf_vI) (kX1_element l) mwX1_element (by decide +kernel : decode cX1_fillByOpening 45 = .ok (.invokevirtual 110, 3)) wt_880 wt_882 wt_57 (by decide +kernel) (by decide) (by decide) (List.forall_mem_cons.mpr ⟨⟨_, _, rfl⟩, fun _ h => absurd h List.not_mem_nil⟩) (sf_RM_of (by omega) (by omega))) (sf_JO_cons (sf_je_V (n := 3) (cs := [1]) (tv := sf_vI) hG mwX1_make (by decide +kernel : decode cX1_fillByOpening 56 = .ok (.invokevirtual 28, 3)) wt_845 wt_847 wt_52 (by decide +kernel) (by decide) (by decide) (List.forall_mem_cons.mpr ⟨⟨_, _, rfl⟩, fun _ h => absurd h List.not_mem_nil⟩) (sf_RM_of (by omega) (by omega))) (sf_JO_cons (sf_je_V (n := 3) (cs := [1]) (tv := sf_vI) (kX1_addRow l) mwX1_addRow (by decide +kernel : decode cX1_fillByOpening 67 = .ok (.invokevirtual 78, 3)) wt_884 wt_886 wt_58 (by decide +kernel) (by decide) (by decide) (List.forall_mem_cons.mpr ⟨⟨_, _, rfl⟩, fun _ h => absurd h List.not_mem_nil⟩) (sf_RM_of (by omega) (by omega))) (sf_JO_nil))))))
    (fun Wt Post hs hm => rX1_fillByOpening hs hm)
-- ===== StreamFuser$Maker.add(II)V =====
abbrev tX1_add : List (Nat × sf_E) := [(0, (.aload_n 0, 1, 0, .null, [], [])), (1, (.getfield 36, 4, 0, .null, [], [(0, 2), (1, 0), (8, 2)])), (4, (.iload_n 1, 5, 0, .null, [], [])), (5, (.invokevirtual 40, 8, 0, .null, [], [])), (8, (.ifCond .eq 14, 11, 22, .null, [], [])), (11, (.aload_n 0, 12, 0, .null, [], [])), (12, (.getfield 15, 15, 0, .null, [], [(1, 6)])), (15, (.iload_n 1, 16, 0, .null, [], [])), (16, (.iaload, 17, 0, .null, [], [])), (17, (.bipush 60, 19, 0, .int (60), [], [])), (19, (.if_icmp .lt 4, 22, 23, .null, [], [])), (22, (.return_, 23, 0, .null, [], [])), (23, (.aload_n 0, 24, 0, .null, [], [])), (24, (.getfield 9, 27, 0, .null, [], [(1, 5)])), (27, (.iload_n 1, 28, 0, .null, [], [])), (28, (.bipush 60, 30, 0, .int (60), [], [])), (30, (.imul, 31, 0, .null, [], [])), (31, (.aload_n 0, 32, 0, .null, [], [])), (32, (.getfield 15, 35, 0, .null, [], [(1, 6)])), (35, (.iload_n 1, 36, 0, .null, [], [])), (36, (.iaload, 37, 0, .null, [], [])), (37, (.iadd, 38, 0, .null, [], [])), (38, (.iload_n 2, 39, 0, .null, [], [])), (39, (.iastore, 40, 0, .null, [], [])), (40, (.aload_n 0, 41, 0, .null, [], [])), (41, (.getfield 15, 44, 0, .null, [], [(1, 6)])), (44, (.iload_n 1, 45, 0, .null, [], [])), (45, (.dup2, 46, 0, .null, [], [])), (46, (.iaload, 47, 0, .null, [], [])), (47, (.iconst 1, 48, 0, .int (1), [], [])), (48, (.iadd, 49, 0, .null, [], [])), (49, (.iastore, 50, 0, .null, [], [])), (50, (.return_, 51, 0, .null, [], []))]
noncomputable abbrev jX1_add : List (Nat × sf_J sf_S) := [(5, sf_jI sf_layC [2] 2 gX2_has)]
noncomputable def dX1_add (x1 : Int32) (x2 : Int32) (σ : sf_S) : Option sf_S :=
  (dX2_has 1 x1 σ).bind fun u1 =>
  if u1.1 = 0 then
    some u1.2
  else
    if sf_in x1 40 then
      if (u1.2 35 x1.toNatClampNeg) < (60 : Int32) then
        if sf_in x1 40 then
          let v2 := ((x1 * (60 : Int32)) + (u1.2 35 x1.toNatClampNeg))
          if sf_in v2 2400 then
            let s3 := sf_up u1.2 34 v2.toNatClampNeg x2
            if sf_in x1 40 then
              if sf_in x1 40 then
                let s4 := sf_up s3 35 x1.toNatClampNeg ((s3 35 x1.toNatClampNeg) + (1 : Int32))
                some s4
              else
                none
            else
              none
          else
            none
        else
          none
      else
        some u1.2
    else
      none
noncomputable abbrev gX1_add (av : List Value) (σ : sf_S) : Option sf_S := match av with
  | [.ref q, .int x1, .int x2] => (match sf_rv [32] q with | true => dX1_add x1 x2 σ | false => none)
  | _ => none
set_option maxRecDepth 100000 in
set_option maxHeartbeats 4000000 in
theorem rX1_add {Wt : Nat → sf_L → List Value → sf_S → Prop} {Post : sf_S → Prop} (hs : sf_Snd Wt sf_layC sf_hV jX1_add tX1_add Post) (hm : sf_mono Wt) : ∀ av σ u, gX1_add av σ = some u → Post u → (∀ ad, (lg_sl (av.map (sf_v ad))).length ≤ 3) ∧ Wt 0 (sf_ent 0 av) [] σ := by
  intro av σ u h hp
  unfold gX1_add at h
  split at h
  · rename_i q x1 x2
    split at h
    · rename_i hq
      have hq : q = 32 := by simpa using sf_rv_mem hq
      subst hq
      refine ⟨fun ad => Nat.le_of_ble_eq_true rfl, ?_⟩
      exact sf_run_ok hs sf_sm_nil 38 0 _ _ σ u h hp
    · cases h
  · cases h
theorem kX1_add (l : Launch) : sf_C l sf_layC yX1_add cX1_add 3 none (sf_rm 2 121) (fun av σ => (gX1_add av σ).map sf_vV) :=
  sf_met (tab := tX1_add) (J := jX1_add) (fl := sf_fl1) (cl := sf_cl1) (by decide +kernel) ⟨rfl, rfl⟩ sf_RH_V (by decide +kernel) sf_fl1_ok sf_cl1_ok
    (sf_JO_cons (sf_je_N (n := 2) (cs := [2]) (tv := sf_vI) "StreamFuser" (kX2_has l) mwX2_has (by decide +kernel : decode cX1_add 5 = .ok (.invokevirtual 40, 3)) wt_849 wt_470 wt_0 (by decide +kernel) (by decide) (by decide) (List.forall_mem_cons.mpr ⟨⟨_, _, rfl⟩, fun _ h => absurd h List.not_mem_nil⟩) (sf_RM_of (by omega) (by omega))) (sf_JO_nil))
    (fun Wt Post hs hm => rX1_add hs hm)
-- ===== StreamFuser$Maker.fillFromProducer(I)Z =====
abbrev tX1_fillFromProducer : List (Nat × sf_E) := [(0, (.aload_n 0, 1, 0, .null, [], [])), (1, (.iload_n 1, 2, 0, .null, [], [])), (2, (.invokevirtual 85, 5, 0, .null, [], [])), (5, (.ifCond .ne 5, 8, 10, .null, [], [])), (8, (.iconst 0, 9, 0, .int (0), [], [])), (9, (.ireturn, 10, 0, .null, [], [])), (10, (.aload_n 0, 11, 0, .null, [], [])), (11, (.iload_n 1, 12, 0, .null, [], [])), (12, (.invokevirtual 88, 15, 0, .null, [], [])), (15, (.lstore_n 2, 16, 0, .null, [], [])), (16, (.lload_n 2, 17, 0, .null, [], [])), (17, (.ldc2_w 92, 20, 0, .long (60), [], [])), (20, (.lcmp, 21, 0, .null, [], [])), (21, (.ifCond .le 22, 24, 43, .null, [], [])), (24, (.aload_n 0, 25, 0, .null, [], [])), (25, (.getfield 18, 28, 0, .null, [], [(0, 3), (1, 1), (8, 3)])), (28, (.iconst 4, 29, 0, .int (4), [], [])), (29, (.aload_n 0, 30, 0, .null, [], [])), (30, (.getfield 36, 33, 0, .null, [], [(0, 2), (1, 0), (8, 2)])), (33, (.getfield 94, 36, 0, .null, [], [(2, 7)])), (36, (.iload_n 1, 37, 0, .null, [], [])), (37, (.iaload, 38, 0, .null, [], [])), (38, (.invokevirtual 97, 41, 0, .null, [], [])), (41, (.iconst 0, 42, 0, .int (0), [], [])), (42, (.ireturn, 43, 0, .null, [], [])), (43, (.aload_n 0, 44, 0, .null, [], [])), (44, (.getfield 18, 47, 0, .null, [], [(0, 3), (1, 1), (8, 3)])), (47, (.lload_n 2, 48, 0, .null, [], [])), (48, (.l2i, 49, 0, .null, [], [])), (49, (.invokevirtual 100, 52, 0, .null, [], [])), (52, (.ifCond .ne 5, 55, 57, .null, [], [])), (55, (.iconst 0, 56, 0, .int (0), [], [])), (56, (.ireturn, 57, 0, .null, [], [])), (57, (.iconst 0, 58, 0, .int (0), [], [])), (58, (.istore 4, 60, 0, .null, [], [])), (60, (.iload 4, 62, 0, .null, [], [])), (62, (.i2l, 63, 0, .null, [], [])), (63, (.lload_n 2, 64, 0, .null, [], [])), (64, (.lcmp, 65, 0, .null, [], [])), (65, (.ifCond .ge 21, 68, 86, .null, [], [])), (68, (.aload_n 0, 69, 0, .null, [], [])), (69, (.iload_n 1, 70, 0, .null, [], [])), (70, (.aload_n 0, 71, 0, .null, [], [])), (71, (.iload_n 1, 72, 0, .null, [], [])), (72, (.iload 4, 74, 0, .null, [], [])), (74, (.invokevirtual 103, 77, 0, .null, [], [])), (77, (.invokevirtual 107, 80, 0, .null, [], [])), (80, (.iinc 4 1, 83, 0, .int (1), [], [])), (83, (.goto (-23), 86, 60, .null, [], [])), (86, (.iconst 1, 87, 0, .int (1), [], [])), (87, (.ireturn, 88, 0, .null, [], []))]
noncomputable abbrev jX1_fillFromProducer : List (Nat × sf_J (Int32 × sf_S)) := [(2, sf_jI sf_layC [1] 2 gX10_isReady), (12, sf_jL sf_layC [1] 2 gX10_supply), (38, sf_jV sf_layC [6] 3 gX6_fail), (49, sf_jI sf_layC [6] 2 gX6_draw), (74, sf_jI sf_layC [1] 3 gX10_supplied), (77, sf_jV sf_layC [1] 3 gX1_add)]
abbrev wX1_fillFromProducer_60 {ρ : Type} (k : Int32 → Int64 → Int32 → sf_S → Option ρ) : sf_M ρ := fun L st σ => sf_lda L 0 fun a0 => sf_eq a0 32 (sf_ldi L 1 fun x1 => sf_ldl L 2 fun x2 => sf_ldi L 4 fun x4 => sf_nil st (k x1 x2 x4 σ))
theorem wX1_fillFromProducer_60_ok {ρ : Type} {Wt : Nat → sf_L → List Value → sf_S → Prop} {Post : ρ → Prop} (hm : sf_mono Wt) {k : Int32 → Int64 → Int32 → sf_S → Option ρ} (h : ∀ (x1 : Int32) (x2 : Int64) (x4 : Int32) (σ : sf_S) (u : ρ), k x1 x2 x4 σ = some u → Post u → Wt 60 [(0, some (.ref 32)), (1, some (.int x1)), (2, some (.long x2)), (4, some (.int x4))] [] σ) : sf_CK Wt Post 60 (wX1_fillFromProducer_60 k) := by
  intro L st σ u hf hp
  unfold wX1_fillFromProducer_60 at hf
  have hf0 := hf
  obtain ⟨a0, e0, hf1⟩ := sf_lda_inv hf0
  obtain ⟨rfl, hf2⟩ := sf_eq_inv hf1
  obtain ⟨x1, e1, hf3⟩ := sf_ldi_inv hf2
  obtain ⟨x2, e2, hf4⟩ := sf_ldl_inv hf3
  obtain ⟨x4, e4, hf5⟩ := sf_ldi_inv hf4
  obtain ⟨rfl, hz⟩ := sf_nil_inv hf5
  exact hm _ [(0, some (.ref _)), (1, some (.int x1)), (2, some (.long x2)), (4, some (.int x4))] _ _ _ (sf_le_ok (And.intro e0 (And.intro e1 (And.intro e2 (And.intro e4 trivial))))) (h _ _ _ _ _ hz hp)
noncomputable def dX1_fillFromProducer_60 : Nat → Int32 → Int64 → Int32 → sf_S → Option (Int32 × sf_S)
  | 0 => fun _ _ _ _ => none
  | n + 1 => fun x1 x2 x4 σ =>
    if 0 ≤ (lg_cmp x4.toInt64 x2) then
      some ((1 : Int32), σ)
    else
      (dX10_supplied 32 x1 x4 σ).bind fun u1 =>
      (dX1_add x1 u1.1 u1.2).bind fun u2 =>
      dX1_fillFromProducer_60 n x1 x2 (x4 + (1 : Int32)) u2
set_option maxRecDepth 100000 in
set_option maxHeartbeats 4000000 in
theorem rX1_fillFromProducer_60 {Wt : Nat → sf_L → List Value → sf_S → Prop} {Post : (Int32 × sf_S) → Prop} (hs : sf_Snd Wt sf_layC sf_hZ jX1_fillFromProducer tX1_fillFromProducer Post) (hm : sf_mono Wt) : ∀ n : Nat, sf_CK Wt Post 60 (wX1_fillFromProducer_60 (dX1_fillFromProducer_60 n)) := by
  intro n
  induction n with
  | zero => exact wX1_fillFromProducer_60_ok hm (fun x1 x2 x4 σ u h _ => by simp [dX1_fillFromProducer_60] at h)
  | succ n ih =>
    refine wX1_fillFromProducer_60_ok hm ?_
    intro x1 x2 x4 σ u h hp
    exact sf_run_ok hs (sf_sm_cons ih sf_sm_nil) 56 60 _ _ σ u h hp
noncomputable def dX1_fillFromProducer (x1 : Int32) (σ : sf_S) : Option (Int32 × sf_S) :=
  (dX10_isReady 32 x1 σ).bind fun u1 =>
  if ¬ u1.1 = 0 then
    (dX10_supply 32 x1 u1.2).bind fun u2 =>
    if (lg_cmp u2.1 (60 : Int64)) ≤ 0 then
      (dX6_draw 19 (u2.1).toInt32 u2.2).bind fun u3 =>
      if ¬ u3.1 = 0 then
        dX1_fillFromProducer_60 sf_F x1 u2.1 (0 : Int32) u3.2
      else
        some ((0 : Int32), u3.2)
    else
      if sf_in x1 40 then
        (dX6_fail 19 (4 : Int32) (u2.2 8 x1.toNatClampNeg) u2.2).bind fun u4 =>
        some ((0 : Int32), u4)
      else
        none
  else
    some ((0 : Int32), u1.2)
noncomputable abbrev gX1_fillFromProducer (av : List Value) (σ : sf_S) : Option (Int32 × sf_S) := match av with
  | [.ref q, .int x1] => (match sf_rv [32] q with | true => dX1_fillFromProducer x1 σ | false => none)
  | _ => none
set_option maxRecDepth 100000 in
set_option maxHeartbeats 4000000 in
theorem rX1_fillFromProducer {Wt : Nat → sf_L → List Value → sf_S → Prop} {Post : (Int32 × sf_S) → Prop} (hs : sf_Snd Wt sf_layC sf_hZ jX1_fillFromProducer tX1_fillFromProducer Post) (hm : sf_mono Wt) : ∀ av σ u, gX1_fillFromProducer av σ = some u → Post u → (∀ ad, (lg_sl (av.map (sf_v ad))).length ≤ 5) ∧ Wt 0 (sf_ent 0 av) [] σ := by
  intro av σ u h hp
  unfold gX1_fillFromProducer at h
  split at h
  · rename_i q x1
    split at h
    · rename_i hq
      have hq : q = 32 := by simpa using sf_rv_mem hq
      subst hq
      refine ⟨fun ad => Nat.le_of_ble_eq_true rfl, ?_⟩
      exact sf_run_ok hs (sf_sm_cons (rX1_fillFromProducer_60 hs hm sf_F) sf_sm_nil) 56 0 _ _ σ u h hp
    · cases h
  · cases h
theorem kX1_fillFromProducer (l : Launch) : sf_C l sf_layC yX1_fillFromProducer cX1_fillFromProducer 5 (some .boolean) (sf_rm 3 144) (fun av σ => (gX1_fillFromProducer av σ).map sf_vI) :=
  sf_met (tab := tX1_fillFromProducer) (J := jX1_fillFromProducer) (fl := sf_fl1) (cl := sf_cl1) (by decide +kernel) ⟨rfl, rfl⟩ sf_RH_Z (by decide +kernel) sf_fl1_ok sf_cl1_ok
    (sf_JO_cons (sf_je_U (n := 2) (cs := [1]) (tv := sf_vI) (kX10_isReady l) mwX10_isReady (by decide +kernel : decode cX1_fillFromProducer 2 = .ok (.invokevirtual 85, 3)) wt_859 wt_734 wt_860 rfl (by decide +kernel) (by decide) (by decide) (List.forall_mem_cons.mpr ⟨⟨_, _, _, rfl, wt_861⟩, fun _ h => absurd h List.not_mem_nil⟩) (sf_RM_of (by omega) (by omega))) (sf_JO_cons (sf_je_U (n := 2) (cs := [1]) (tv := sf_vL) (kX10_supply l) mwX10_supply (by decide +kernel : decode cX1_fillFromProducer 12 = .ok (.invokevirtual 88, 3)) wt_862 wt_746 wt_863 rfl (by decide +kernel) (by decide) (by decide) (List.forall_mem_cons.mpr ⟨⟨_, _, _, rfl, wt_864⟩, fun _ h => absurd h List.not_mem_nil⟩) (sf_RM_of (by omega) (by omega))) (sf_JO_cons (sf_je_N (n := 3) (cs := [6]) (tv := sf_vV) "StreamFuser" (kX6_fail l) mwX6_fail (by decide +kernel : decode cX1_fillFromProducer 38 = .ok (.invokevirtual 97, 3)) wt_866 wt_653 wt_30 (by decide +kernel) (by decide) (by decide) (List.forall_mem_cons.mpr ⟨⟨_, _, rfl⟩, fun _ h => absurd h List.not_mem_nil⟩) (sf_RM_of (by omega) (by omega))) (sf_JO_cons (sf_je_N (n := 2) (cs := [6]) (tv := sf_vI) "StreamFuser" (kX6_draw l) mwX6_draw (by decide +kernel : decode cX1_fillFromProducer 49 = .ok (.invokevirtual 100, 3)) wt_867 wt_765 wt_41 (by decide +kernel) (by decide) (by decide) (List.forall_mem_cons.mpr ⟨⟨_, _, rfl⟩, fun _ h => absurd h List.not_mem_nil⟩) (sf_RM_of (by omega) (by omega))) (sf_JO_cons (sf_je_U (n := 3) (cs := [1]) (tv := sf_vI) (kX10_supplied l) mwX10_supplied (by decide +kernel : decode cX1_fillFromProducer 74 = .ok (.invokevirtual 103, 3)) wt_868 wt_773 wt_869 rfl (by decide +kernel) (by decide) (by decide) (List.forall_mem_cons.mpr ⟨⟨_, _, _, rfl, wt_870⟩, fun _ h => absurd h List.not_mem_nil⟩) (sf_RM_of (by omega) (by omega))) (sf_JO_cons (sf_je_V (n := 3) (cs := [1]) (tv := sf_vV) (kX1_add l) mwX1_add (by decide +kernel : decode cX1_fillFromProducer 77 = .ok (.invokevirtual 107, 3)) wt_871 wt_873 wt_55 (by decide +kernel) (by decide) (by decide) (List.forall_mem_cons.mpr ⟨⟨_, _, rfl⟩, fun _ h => absurd h List.not_mem_nil⟩) (sf_RM_of (by omega) (by omega))) (sf_JO_nil)))))))
    (fun Wt Post hs hm => rX1_fillFromProducer hs hm)
-- ===== StreamFuser$Maker.fillFromInput(I)Z =====
abbrev tX1_fillFromInput : List (Nat × sf_E) := [(0, (.iload_n 1, 1, 0, .null, [], [])), (1, (.iconst 1, 2, 0, .int (1), [], [])), (2, (.iadd, 3, 0, .null, [], [])), (3, (.istore_n 2, 4, 0, .null, [], [])), (4, (.aload_n 0, 5, 0, .null, [], [])), (5, (.getfield 36, 8, 0, .null, [], [(0, 2), (1, 0), (8, 2)])), (8, (.iload_n 2, 9, 0, .null, [], [])), (9, (.invokevirtual 40, 12, 0, .null, [], [])), (12, (.ifCond .ne 5, 15, 17, .null, [], [])), (15, (.iconst 0, 16, 0, .int (0), [], [])), (16, (.ireturn, 17, 0, .null, [], [])), (17, (.iconst 0, 18, 0, .int (0), [], [])), (18, (.istore_n 3, 19, 0, .null, [], [])), (19, (.iload_n 3, 20, 0, .null, [], [])), (20, (.aload_n 0, 21, 0, .null, [], [])), (21, (.getfield 15, 24, 0, .null, [], [(1, 6)])), (24, (.iload_n 2, 25, 0, .null, [], [])), (25, (.iaload, 26, 0, .null, [], [])), (26, (.if_icmp .ge 185, 29, 211, .null, [], [])), (29, (.aload_n 0, 30, 0, .null, [], [])), (30, (.iload_n 2, 31, 0, .null, [], [])), (31, (.iload_n 3, 32, 0, .null, [], [])), (32, (.invokevirtual 110, 35, 0, .null, [], [])), (35, (.istore 4, 37, 0, .null, [], [])), (37, (.aload_n 0, 38, 0, .null, [], [])), (38, (.getfield 36, 41, 0, .null, [], [(0, 2), (1, 0), (8, 2)])), (41, (.getfield 56, 44, 0, .null, [], [(2, 0)])), (44, (.iload_n 1, 45, 0, .null, [], [])), (45, (.iaload, 46, 0, .null, [], [])), (46, (.lookupswitch 138 #[(63, 50), (100, 115), (107, 50), (116, 92), (119, 70)], 96, 184, .null, [((63), 96), ((100), 161), ((107), 96), ((116), 138), ((119), 116)], [])), (96, (.aload_n 0, 97, 0, .null, [], [])), (97, (.iload_n 1, 98, 0, .null, [], [])), (98, (.iload 4, 100, 0, .null, [], [])), (100, (.invokevirtual 113, 103, 0, .null, [], [])), (103, (.ifCond .eq 102, 106, 205, .null, [], [])), (106, (.aload_n 0, 107, 0, .null, [], [])), (107, (.iload_n 1, 108, 0, .null, [], [])), (108, (.iload 4, 110, 0, .null, [], [])), (110, (.invokevirtual 107, 113, 0, .null, [], [])), (113, (.goto 92, 116, 205, .null, [], [])), (116, (.aload_n 0, 117, 0, .null, [], [])), (117, (.iload_n 1, 118, 0, .null, [], [])), (118, (.iload 4, 120, 0, .null, [], [])), (120, (.invokevirtual 113, 123, 0, .null, [], [])), (123, (.ifCond .ne 5, 126, 128, .null, [], [])), (126, (.iconst 1, 127, 0, .int (1), [], [])), (127, (.ireturn, 128, 0, .null, [], [])), (128, (.aload_n 0, 129, 0, .null, [], [])), (129, (.iload_n 1, 130, 0, .null, [], [])), (130, (.iload 4, 132, 0, .null, [], [])), (132, (.invokevirtual 107, 135, 0, .null, [], [])), (135, (.goto 70, 138, 205, .null, [], [])), (138, (.iload_n 3, 139, 0, .null, [], [])), (139, (.aload_n 0, 140, 0, .null, [], [])), (140, (.getfield 36, 143, 0, .null, [], [(0, 2), (1, 0), (8, 2)])), (143, (.getfield 116, 146, 0, .null, [], [(2, 2)])), (146, (.iload_n 1, 147, 0, .null, [], [])), (147, (.iaload, 148, 0, .null, [], [])), (148, (.if_icmp .ge 57, 151, 205, .null, [], [])), (151, (.aload_n 0, 152, 0, .null, [], [])), (152, (.iload_n 1, 153, 0, .null, [], [])), (153, (.iload 4, 155, 0, .null, [], [])), (155, (.invokevirtual 107, 158, 0, .null, [], [])), (158, (.goto 47, 161, 205, .null, [], [])), (161, (.iload_n 3, 162, 0, .null, [], [])), (162, (.aload_n 0, 163, 0, .null, [], [])), (163, (.getfield 36, 166, 0, .null, [], [(0, 2), (1, 0), (8, 2)])), (166, (.getfield 116, 169, 0, .null, [], [(2, 2)])), (169, (.iload_n 1, 170, 0, .null, [], [])), (170, (.iaload, 171, 0, .null, [], [])), (171, (.if_icmp .lt 34, 174, 205, .null, [], [])), (174, (.aload_n 0, 175, 0, .null, [], [])), (175, (.iload_n 1, 176, 0, .null, [], [])), (176, (.iload 4, 178, 0, .null, [], [])), (178, (.invokevirtual 107, 181, 0, .null, [], [])), (181, (.goto 24, 184, 205, .null, [], [])), (184, (.aload_n 0, 185, 0, .null, [], [])), (185, (.iload_n 1, 186, 0, .null, [], [])), (186, (.iload 4, 188, 0, .null, [], [])), (188, (.invokevirtual 119, 191, 0, .null, [], [])), (191, (.ifCond .ne 5, 194, 196, .null, [], [])), (194, (.iconst 0, 195, 0, .int (0), [], [])), (195, (.ireturn, 196, 0, .null, [], [])), (196, (.aload_n 0, 197, 0, .null, [], [])), (197, (.iload_n 1, 198, 0, .null, [], [])), (198, (.aload_n 0, 199, 0, .null, [], [])), (199, (.getfield 122, 202, 0, .null, [], [(0, 6), (1, 4), (8, 6)])), (202, (.invokevirtual 107, 205, 0, .null, [], [])), (205, (.iinc 3 1, 208, 0, .int (1), [], [])), (208, (.goto (-189), 211, 19, .null, [], [])), (211, (.iconst 1, 212, 0, .int (1), [], [])), (212, (.ireturn, 213, 0, .null, [], []))]
noncomputable abbrev jX1_fillFromInput : List (Nat × sf_J (Int32 × sf_S)) := [(9, sf_jI sf_layC [2] 2 gX2_has), (32, sf_jI sf_layC [1] 3 gX1_element), (100, sf_jI sf_layC [1] 3 gX10_passes), (110, sf_jV sf_layC [1] 3 gX1_add), (120, sf_jI sf_layC [1] 3 gX10_passes), (132, sf_jV sf_layC [1] 3 gX1_add), (155, sf_jV sf_layC [1] 3 gX1_add), (178, sf_jV sf_layC [1] 3 gX1_add), (188, sf_jI sf_layC [1] 3 gX10_change), (202, sf_jV sf_layC [1] 3 gX1_add)]
abbrev wX1_fillFromInput_19 {ρ : Type} (k : Int32 → Int32 → Int32 → sf_S → Option ρ) : sf_M ρ := fun L st σ => sf_lda L 0 fun a0 => sf_eq a0 32 (sf_ldi L 1 fun x1 => sf_ldi L 2 fun x2 => sf_ldi L 3 fun x3 => sf_nil st (k x1 x2 x3 σ))
theorem wX1_fillFromInput_19_ok {ρ : Type} {Wt : Nat → sf_L → List Value → sf_S → Prop} {Post : ρ → Prop} (hm : sf_mono Wt) {k : Int32 → Int32 → Int32 → sf_S → Option ρ} (h : ∀ (x1 : Int32) (x2 : Int32) (x3 : Int32) (σ : sf_S) (u : ρ), k x1 x2 x3 σ = some u → Post u → Wt 19 [(0, some (.ref 32)), (1, some (.int x1)), (2, some (.int x2)), (3, some (.int x3))] [] σ) : sf_CK Wt Post 19 (wX1_fillFromInput_19 k) := by
  intro L st σ u hf hp
  unfold wX1_fillFromInput_19 at hf
  have hf0 := hf
  obtain ⟨a0, e0, hf1⟩ := sf_lda_inv hf0
  obtain ⟨rfl, hf2⟩ := sf_eq_inv hf1
  obtain ⟨x1, e1, hf3⟩ := sf_ldi_inv hf2
  obtain ⟨x2, e2, hf4⟩ := sf_ldi_inv hf3
  obtain ⟨x3, e3, hf5⟩ := sf_ldi_inv hf4
  obtain ⟨rfl, hz⟩ := sf_nil_inv hf5
  exact hm _ [(0, some (.ref _)), (1, some (.int x1)), (2, some (.int x2)), (3, some (.int x3))] _ _ _ (sf_le_ok (And.intro e0 (And.intro e1 (And.intro e2 (And.intro e3 trivial))))) (h _ _ _ _ _ hz hp)
noncomputable def dX1_fillFromInput_19 : Nat → Int32 → Int32 → Int32 → sf_S → Option (Int32 × sf_S)
  | 0 => fun _ _ _ _ => none
  | n + 1 => fun x1 x2 x3 σ =>
    if sf_in x2 40 then
      if (σ 35 x2.toNatClampNeg) ≤ x3 then
        some ((1 : Int32), σ)
      else
        (dX1_element x2 x3 σ).bind fun u1 =>
        if sf_in x1 40 then
          let v2 := (u1.2 2 x1.toNatClampNeg)
          if v2 = (63 : Int32) then
            (dX10_passes 32 x1 u1.1 u1.2).bind fun u3 =>
            if u3.1 = 0 then
              dX1_fillFromInput_19 n x1 x2 (x3 + (1 : Int32)) u3.2
            else
              (dX1_add x1 u1.1 u3.2).bind fun u4 =>
              dX1_fillFromInput_19 n x1 x2 (x3 + (1 : Int32)) u4
          else
          if v2 = (100 : Int32) then
            if sf_in x1 40 then
              if x3 < (u1.2 4 x1.toNatClampNeg) then
                dX1_fillFromInput_19 n x1 x2 (x3 + (1 : Int32)) u1.2
              else
                (dX1_add x1 u1.1 u1.2).bind fun u5 =>
                dX1_fillFromInput_19 n x1 x2 (x3 + (1 : Int32)) u5
            else
              none
          else
          if v2 = (107 : Int32) then
            (dX10_passes 32 x1 u1.1 u1.2).bind fun u6 =>
            if u6.1 = 0 then
              dX1_fillFromInput_19 n x1 x2 (x3 + (1 : Int32)) u6.2
            else
              (dX1_add x1 u1.1 u6.2).bind fun u7 =>
              dX1_fillFromInput_19 n x1 x2 (x3 + (1 : Int32)) u7
          else
          if v2 = (116 : Int32) then
            if sf_in x1 40 then
              if (u1.2 4 x1.toNatClampNeg) ≤ x3 then
                dX1_fillFromInput_19 n x1 x2 (x3 + (1 : Int32)) u1.2
              else
                (dX1_add x1 u1.1 u1.2).bind fun u8 =>
                dX1_fillFromInput_19 n x1 x2 (x3 + (1 : Int32)) u8
            else
              none
          else
          if v2 = (119 : Int32) then
            (dX10_passes 32 x1 u1.1 u1.2).bind fun u9 =>
            if ¬ u9.1 = 0 then
              (dX1_add x1 u1.1 u9.2).bind fun u10 =>
              dX1_fillFromInput_19 n x1 x2 (x3 + (1 : Int32)) u10
            else
              some ((1 : Int32), u9.2)
          else
            (dX10_change 32 x1 u1.1 u1.2).bind fun u11 =>
            if ¬ u11.1 = 0 then
              (dX1_add x1 (u11.2 32 4) u11.2).bind fun u12 =>
              dX1_fillFromInput_19 n x1 x2 (x3 + (1 : Int32)) u12
            else
              some ((0 : Int32), u11.2)
        else
          none
    else
      none
set_option maxRecDepth 100000 in
set_option maxHeartbeats 4000000 in
theorem rX1_fillFromInput_19 {Wt : Nat → sf_L → List Value → sf_S → Prop} {Post : (Int32 × sf_S) → Prop} (hs : sf_Snd Wt sf_layC sf_hZ jX1_fillFromInput tX1_fillFromInput Post) (hm : sf_mono Wt) : ∀ n : Nat, sf_CK Wt Post 19 (wX1_fillFromInput_19 (dX1_fillFromInput_19 n)) := by
  intro n
  induction n with
  | zero => exact wX1_fillFromInput_19_ok hm (fun x1 x2 x3 σ u h _ => by simp [dX1_fillFromInput_19] at h)
  | succ n ih =>
    refine wX1_fillFromInput_19_ok hm ?_
    intro x1 x2 x3 σ u h hp
    exact sf_run_ok hs (sf_sm_cons ih sf_sm_nil) 97 19 _ _ σ u h hp
noncomputable def dX1_fillFromInput (x1 : Int32) (σ : sf_S) : Option (Int32 × sf_S) :=
  (dX2_has 1 (x1 + (1 : Int32)) σ).bind fun u1 =>
  if ¬ u1.1 = 0 then
    dX1_fillFromInput_19 sf_F x1 (x1 + (1 : Int32)) (0 : Int32) u1.2
  else
    some ((0 : Int32), u1.2)
noncomputable abbrev gX1_fillFromInput (av : List Value) (σ : sf_S) : Option (Int32 × sf_S) := match av with
  | [.ref q, .int x1] => (match sf_rv [32] q with | true => dX1_fillFromInput x1 σ | false => none)
  | _ => none
set_option maxRecDepth 100000 in
set_option maxHeartbeats 4000000 in
theorem rX1_fillFromInput {Wt : Nat → sf_L → List Value → sf_S → Prop} {Post : (Int32 × sf_S) → Prop} (hs : sf_Snd Wt sf_layC sf_hZ jX1_fillFromInput tX1_fillFromInput Post) (hm : sf_mono Wt) : ∀ av σ u, gX1_fillFromInput av σ = some u → Post u → (∀ ad, (lg_sl (av.map (sf_v ad))).length ≤ 5) ∧ Wt 0 (sf_ent 0 av) [] σ := by
  intro av σ u h hp
  unfold gX1_fillFromInput at h
  split at h
  · rename_i q x1
    split at h
    · rename_i hq
      have hq : q = 32 := by simpa using sf_rv_mem hq
      subst hq
      refine ⟨fun ad => Nat.le_of_ble_eq_true rfl, ?_⟩
      exact sf_run_ok hs (sf_sm_cons (rX1_fillFromInput_19 hs hm sf_F) sf_sm_nil) 97 0 _ _ σ u h hp
    · cases h
  · cases h
theorem kX1_fillFromInput (l : Launch) : sf_C l sf_layC yX1_fillFromInput cX1_fillFromInput 5 (some .boolean) (sf_rm 4 168) (fun av σ => (gX1_fillFromInput av σ).map sf_vI) :=
  sf_met (tab := tX1_fillFromInput) (J := jX1_fillFromInput) (fl := sf_fl1) (cl := sf_cl1) (by decide +kernel) ⟨rfl, rfl⟩ sf_RH_Z (by decide +kernel) sf_fl1_ok sf_cl1_ok
    (sf_JO_cons (sf_je_N (n := 2) (cs := [2]) (tv := sf_vI) "StreamFuser" (kX2_has l) mwX2_has (by decide +kernel : decode cX1_fillFromInput 9 = .ok (.invokevirtual 40, 3)) wt_849 wt_470 wt_0 (by decide +kernel) (by decide) (by decide) (List.forall_mem_cons.mpr ⟨⟨_, _, rfl⟩, fun _ h => absurd h List.not_mem_nil⟩) (sf_RM_of (by omega) (by omega))) (sf_JO_cons (sf_je_V (n := 3) (cs := [1]) (tv := sf_vI) (kX1_element l) mwX1_element (by decide +kernel : decode cX1_fillFromInput 32 = .ok (.invokevirtual 110, 3)) wt_880 wt_882 wt_57 (by decide +kernel) (by decide) (by decide) (List.forall_mem_cons.mpr ⟨⟨_, _, rfl⟩, fun _ h => absurd h List.not_mem_nil⟩) (sf_RM_of (by omega) (by omega))) (sf_JO_cons (sf_je_U (n := 3) (cs := [1]) (tv := sf_vI) (kX10_passes l) mwX10_passes (by decide +kernel : decode cX1_fillFromInput 100 = .ok (.invokevirtual 113, 3)) wt_895 wt_674 wt_896 rfl (by decide +kernel) (by decide) (by decide) (List.forall_mem_cons.mpr ⟨⟨_, _, _, rfl, wt_897⟩, fun _ h => absurd h List.not_mem_nil⟩) (sf_RM_of (by omega) (by omega))) (sf_JO_cons (sf_je_V (n := 3) (cs := [1]) (tv := sf_vV) (kX1_add l) mwX1_add (by decide +kernel : decode cX1_fillFromInput 110 = .ok (.invokevirtual 107, 3)) wt_871 wt_873 wt_55 (by decide +kernel) (by decide) (by decide) (List.forall_mem_cons.mpr ⟨⟨_, _, rfl⟩, fun _ h => absurd h List.not_mem_nil⟩) (sf_RM_of (by omega) (by omega))) (sf_JO_cons (sf_je_U (n := 3) (cs := [1]) (tv := sf_vI) (kX10_passes l) mwX10_passes (by decide +kernel : decode cX1_fillFromInput 120 = .ok (.invokevirtual 113, 3)) wt_895 wt_674 wt_896 rfl (by decide +kernel) (by decide) (by decide) (List.forall_mem_cons.mpr ⟨⟨_, _, _, rfl, wt_897⟩, fun _ h => absurd h List.not_mem_nil⟩) (sf_RM_of (by omega) (by omega))) (sf_JO_cons (sf_je_V (n := 3) (cs := [1]) (tv := sf_vV) (kX1_add l) mwX1_add (by decide +kernel : decode cX1_fillFromInput 132 = .ok (.invokevirtual 107, 3)) wt_871 wt_873 wt_55 (by decide +kernel) (by decide) (by decide) (List.forall_mem_cons.mpr ⟨⟨_, _, rfl⟩, fun _ h => absurd h List.not_mem_nil⟩) (sf_RM_of (by omega) (by omega))) (sf_JO_cons (sf_je_V (n := 3) (cs := [1]) (tv := sf_vV) (kX1_add l) mwX1_add (by decide +kernel : decode cX1_fillFromInput 155 = .ok (.invokevirtual 107, 3)) wt_871 wt_873 wt_55 (by decide +kernel) (by decide) (by decide) (List.forall_mem_cons.mpr ⟨⟨_, _, rfl⟩, fun _ h => absurd h List.not_mem_nil⟩) (sf_RM_of (by omega) (by omega))) (sf_JO_cons (sf_je_V (n := 3) (cs := [1]) (tv := sf_vV) (kX1_add l) mwX1_add (by decide +kernel : decode cX1_fillFromInput 178 = .ok (.invokevirtual 107, 3)) wt_871 wt_873 wt_55 (by decide +kernel) (by decide) (by decide) (List.forall_mem_cons.mpr ⟨⟨_, _, rfl⟩, fun _ h => absurd h List.not_mem_nil⟩) (sf_RM_of (by omega) (by omega))) (sf_JO_cons (sf_je_U (n := 3) (cs := [1]) (tv := sf_vI) (kX10_change l) mwX10_change (by decide +kernel : decode cX1_fillFromInput 188 = .ok (.invokevirtual 119, 3)) wt_898 wt_644 wt_899 rfl (by decide +kernel) (by decide) (by decide) (List.forall_mem_cons.mpr ⟨⟨_, _, _, rfl, wt_900⟩, fun _ h => absurd h List.not_mem_nil⟩) (sf_RM_of (by omega) (by omega))) (sf_JO_cons (sf_je_V (n := 3) (cs := [1]) (tv := sf_vV) (kX1_add l) mwX1_add (by decide +kernel : decode cX1_fillFromInput 202 = .ok (.invokevirtual 107, 3)) wt_871 wt_873 wt_55 (by decide +kernel) (by decide) (by decide) (List.forall_mem_cons.mpr ⟨⟨_, _, rfl⟩, fun _ h => absurd h List.not_mem_nil⟩) (sf_RM_of (by omega) (by omega))) (sf_JO_nil)))))))))))
    (fun Wt Post hs hm => rX1_fillFromInput hs hm)
-- ===== StreamFuser$Maker.zip(II)V =====
abbrev tX1_zip : List (Nat × sf_E) := [(0, (.iload_n 1, 1, 0, .null, [], [])), (1, (.iconst 1, 2, 0, .int (1), [], [])), (2, (.iadd, 3, 0, .null, [], [])), (3, (.istore_n 3, 4, 0, .null, [], [])), (4, (.aload_n 0, 5, 0, .null, [], [])), (5, (.getfield 36, 8, 0, .null, [], [(0, 2), (1, 0), (8, 2)])), (8, (.iload_n 3, 9, 0, .null, [], [])), (9, (.invokevirtual 40, 12, 0, .null, [], [])), (12, (.ifCond .eq 14, 15, 26, .null, [], [])), (15, (.aload_n 0, 16, 0, .null, [], [])), (16, (.getfield 36, 19, 0, .null, [], [(0, 2), (1, 0), (8, 2)])), (19, (.iload_n 2, 20, 0, .null, [], [])), (20, (.invokevirtual 40, 23, 0, .null, [], [])), (23, (.ifCond .ne 4, 26, 27, .null, [], [])), (26, (.return_, 27, 0, .null, [], [])), (27, (.aload_n 0, 28, 0, .null, [], [])), (28, (.getfield 15, 31, 0, .null, [], [(1, 6)])), (31, (.iload_n 3, 32, 0, .null, [], [])), (32, (.iaload, 33, 0, .null, [], [])), (33, (.aload_n 0, 34, 0, .null, [], [])), (34, (.getfield 15, 37, 0, .null, [], [(1, 6)])), (37, (.iload_n 2, 38, 0, .null, [], [])), (38, (.iaload, 39, 0, .null, [], [])), (39, (.invokestatic 134, 42, 0, .null, [], [])), (42, (.istore 4, 44, 0, .null, [], [])), (44, (.iconst 0, 45, 0, .int (0), [], [])), (45, (.istore 5, 47, 0, .null, [], [])), (47, (.iload 5, 49, 0, .null, [], [])), (49, (.iload 4, 51, 0, .null, [], [])), (51, (.if_icmp .ge 33, 54, 84, .null, [], [])), (54, (.aload_n 0, 55, 0, .null, [], [])), (55, (.iload_n 1, 56, 0, .null, [], [])), (56, (.aload_n 0, 57, 0, .null, [], [])), (57, (.iload_n 1, 58, 0, .null, [], [])), (58, (.aload_n 0, 59, 0, .null, [], [])), (59, (.iload_n 3, 60, 0, .null, [], [])), (60, (.iload 5, 62, 0, .null, [], [])), (62, (.invokevirtual 110, 65, 0, .null, [], [])), (65, (.aload_n 0, 66, 0, .null, [], [])), (66, (.iload_n 2, 67, 0, .null, [], [])), (67, (.iload 5, 69, 0, .null, [], [])), (69, (.invokevirtual 110, 72, 0, .null, [], [])), (72, (.invokevirtual 139, 75, 0, .null, [], [])), (75, (.invokevirtual 107, 78, 0, .null, [], [])), (78, (.iinc 5 1, 81, 0, .int (1), [], [])), (81, (.goto (-34), 84, 47, .null, [], [])), (84, (.return_, 85, 0, .null, [], []))]
noncomputable abbrev jX1_zip : List (Nat × sf_J sf_S) := [(9, sf_jI sf_layC [2] 2 gX2_has), (20, sf_jI sf_layC [2] 2 gX2_has), (39, sf_jmin), (62, sf_jI sf_layC [1] 3 gX1_element), (69, sf_jI sf_layC [1] 3 gX1_element), (72, sf_jI sf_layC [1] 4 gX10_join), (75, sf_jV sf_layC [1] 3 gX1_add)]
abbrev wX1_zip_47 {ρ : Type} (k : Int32 → Int32 → Int32 → Int32 → Int32 → sf_S → Option ρ) : sf_M ρ := fun L st σ => sf_lda L 0 fun a0 => sf_eq a0 32 (sf_ldi L 1 fun x1 => sf_ldi L 2 fun x2 => sf_ldi L 3 fun x3 => sf_ldi L 4 fun x4 => sf_ldi L 5 fun x5 => sf_nil st (k x1 x2 x3 x4 x5 σ))
theorem wX1_zip_47_ok {ρ : Type} {Wt : Nat → sf_L → List Value → sf_S → Prop} {Post : ρ → Prop} (hm : sf_mono Wt) {k : Int32 → Int32 → Int32 → Int32 → Int32 → sf_S → Option ρ} (h : ∀ (x1 : Int32) (x2 : Int32) (x3 : Int32) (x4 : Int32) (x5 : Int32) (σ : sf_S) (u : ρ), k x1 x2 x3 x4 x5 σ = some u → Post u → Wt 47 [(0, some (.ref 32)), (1, some (.int x1)), (2, some (.int x2)), (3, some (.int x3)), (4, some (.int x4)), (5, some (.int x5))] [] σ) : sf_CK Wt Post 47 (wX1_zip_47 k) := by
  intro L st σ u hf hp
  unfold wX1_zip_47 at hf
  have hf0 := hf
  obtain ⟨a0, e0, hf1⟩ := sf_lda_inv hf0
  obtain ⟨rfl, hf2⟩ := sf_eq_inv hf1
  obtain ⟨x1, e1, hf3⟩ := sf_ldi_inv hf2
  obtain ⟨x2, e2, hf4⟩ := sf_ldi_inv hf3
  obtain ⟨x3, e3, hf5⟩ := sf_ldi_inv hf4
  obtain ⟨x4, e4, hf6⟩ := sf_ldi_inv hf5
  obtain ⟨x5, e5, hf7⟩ := sf_ldi_inv hf6
  obtain ⟨rfl, hz⟩ := sf_nil_inv hf7
  exact hm _ [(0, some (.ref _)), (1, some (.int x1)), (2, some (.int x2)), (3, some (.int x3)), (4, some (.int x4)), (5, some (.int x5))] _ _ _ (sf_le_ok (And.intro e0 (And.intro e1 (And.intro e2 (And.intro e3 (And.intro e4 (And.intro e5 trivial))))))) (h _ _ _ _ _ _ _ hz hp)
noncomputable def dX1_zip_47 : Nat → Int32 → Int32 → Int32 → Int32 → Int32 → sf_S → Option sf_S
  | 0 => fun _ _ _ _ _ _ => none
  | n + 1 => fun x1 x2 x3 x4 x5 σ =>
    if x4 ≤ x5 then
      some σ
    else
      (dX1_element x3 x5 σ).bind fun u1 =>
      (dX1_element x2 x5 u1.2).bind fun u2 =>
      (dX10_join 32 x1 u1.1 u2.1 u2.2).bind fun u3 =>
      (dX1_add x1 u3.1 u3.2).bind fun u4 =>
      dX1_zip_47 n x1 x2 x3 x4 (x5 + (1 : Int32)) u4
set_option maxRecDepth 100000 in
set_option maxHeartbeats 4000000 in
theorem rX1_zip_47 {Wt : Nat → sf_L → List Value → sf_S → Prop} {Post : sf_S → Prop} (hs : sf_Snd Wt sf_layC sf_hV jX1_zip tX1_zip Post) (hm : sf_mono Wt) : ∀ n : Nat, sf_CK Wt Post 47 (wX1_zip_47 (dX1_zip_47 n)) := by
  intro n
  induction n with
  | zero => exact wX1_zip_47_ok hm (fun x1 x2 x3 x4 x5 σ u h _ => by simp [dX1_zip_47] at h)
  | succ n ih =>
    refine wX1_zip_47_ok hm ?_
    intro x1 x2 x3 x4 x5 σ u h hp
    exact sf_run_ok hs (sf_sm_cons ih sf_sm_nil) 52 47 _ _ σ u h hp
noncomputable def dX1_zip (x1 : Int32) (x2 : Int32) (σ : sf_S) : Option sf_S :=
  (dX2_has 1 (x1 + (1 : Int32)) σ).bind fun u1 =>
  if u1.1 = 0 then
    some u1.2
  else
    (dX2_has 1 x2 u1.2).bind fun u2 =>
    if ¬ u2.1 = 0 then
      if sf_in (x1 + (1 : Int32)) 40 then
        if sf_in x2 40 then
          let v3 := (u2.2 35 ((x1 + (1 : Int32))).toNatClampNeg)
          let v4 := (u2.2 35 x2.toNatClampNeg)
          let v5 := (if v4 < v3 then v4 else v3)
          dX1_zip_47 sf_F x1 x2 (x1 + (1 : Int32)) v5 (0 : Int32) u2.2
        else
          none
      else
        none
    else
      some u2.2
noncomputable abbrev gX1_zip (av : List Value) (σ : sf_S) : Option sf_S := match av with
  | [.ref q, .int x1, .int x2] => (match sf_rv [32] q with | true => dX1_zip x1 x2 σ | false => none)
  | _ => none
set_option maxRecDepth 100000 in
set_option maxHeartbeats 4000000 in
theorem rX1_zip {Wt : Nat → sf_L → List Value → sf_S → Prop} {Post : sf_S → Prop} (hs : sf_Snd Wt sf_layC sf_hV jX1_zip tX1_zip Post) (hm : sf_mono Wt) : ∀ av σ u, gX1_zip av σ = some u → Post u → (∀ ad, (lg_sl (av.map (sf_v ad))).length ≤ 6) ∧ Wt 0 (sf_ent 0 av) [] σ := by
  intro av σ u h hp
  unfold gX1_zip at h
  split at h
  · rename_i q x1 x2
    split at h
    · rename_i hq
      have hq : q = 32 := by simpa using sf_rv_mem hq
      subst hq
      refine ⟨fun ad => Nat.le_of_ble_eq_true rfl, ?_⟩
      exact sf_run_ok hs (sf_sm_cons (rX1_zip_47 hs hm sf_F) sf_sm_nil) 52 0 _ _ σ u h hp
    · cases h
  · cases h
theorem kX1_zip (l : Launch) : sf_C l sf_layC yX1_zip cX1_zip 6 none (sf_rm 3 144) (fun av σ => (gX1_zip av σ).map sf_vV) :=
  sf_met (tab := tX1_zip) (J := jX1_zip) (fl := sf_fl1) (cl := sf_cl1) (by decide +kernel) ⟨rfl, rfl⟩ sf_RH_V (by decide +kernel) sf_fl1_ok sf_cl1_ok
    (sf_JO_cons (sf_je_N (n := 2) (cs := [2]) (tv := sf_vI) "StreamFuser" (kX2_has l) mwX2_has (by decide +kernel : decode cX1_zip 9 = .ok (.invokevirtual 40, 3)) wt_849 wt_470 wt_0 (by decide +kernel) (by decide) (by decide) (List.forall_mem_cons.mpr ⟨⟨_, _, rfl⟩, fun _ h => absurd h List.not_mem_nil⟩) (sf_RM_of (by omega) (by omega))) (sf_JO_cons (sf_je_N (n := 2) (cs := [2]) (tv := sf_vI) "StreamFuser" (kX2_has l) mwX2_has (by decide +kernel : decode cX1_zip 20 = .ok (.invokevirtual 40, 3)) wt_849 wt_470 wt_0 (by decide +kernel) (by decide) (by decide) (List.forall_mem_cons.mpr ⟨⟨_, _, rfl⟩, fun _ h => absurd h List.not_mem_nil⟩) (sf_RM_of (by omega) (by omega))) (sf_JO_cons (sf_je_min (by decide +kernel : decode cX1_zip 39 = .ok (.invokestatic 134, 3)) wt_906 wt_559 wt_89 wt_560 (sf_RB_of (by omega) (by omega))) (sf_JO_cons (sf_je_V (n := 3) (cs := [1]) (tv := sf_vI) (kX1_element l) mwX1_element (by decide +kernel : decode cX1_zip 62 = .ok (.invokevirtual 110, 3)) wt_880 wt_882 wt_57 (by decide +kernel) (by decide) (by decide) (List.forall_mem_cons.mpr ⟨⟨_, _, rfl⟩, fun _ h => absurd h List.not_mem_nil⟩) (sf_RM_of (by omega) (by omega))) (sf_JO_cons (sf_je_V (n := 3) (cs := [1]) (tv := sf_vI) (kX1_element l) mwX1_element (by decide +kernel : decode cX1_zip 69 = .ok (.invokevirtual 110, 3)) wt_880 wt_882 wt_57 (by decide +kernel) (by decide) (by decide) (List.forall_mem_cons.mpr ⟨⟨_, _, rfl⟩, fun _ h => absurd h List.not_mem_nil⟩) (sf_RM_of (by omega) (by omega))) (sf_JO_cons (sf_je_U (n := 4) (cs := [1]) (tv := sf_vI) (kX10_join l) mwX10_join (by decide +kernel : decode cX1_zip 72 = .ok (.invokevirtual 139, 3)) wt_907 wt_706 wt_908 rfl (by decide +kernel) (by decide) (by decide) (List.forall_mem_cons.mpr ⟨⟨_, _, _, rfl, wt_909⟩, fun _ h => absurd h List.not_mem_nil⟩) (sf_RM_of (by omega) (by omega))) (sf_JO_cons (sf_je_V (n := 3) (cs := [1]) (tv := sf_vV) (kX1_add l) mwX1_add (by decide +kernel : decode cX1_zip 75 = .ok (.invokevirtual 107, 3)) wt_871 wt_873 wt_55 (by decide +kernel) (by decide) (by decide) (List.forall_mem_cons.mpr ⟨⟨_, _, rfl⟩, fun _ h => absurd h List.not_mem_nil⟩) (sf_RM_of (by omega) (by omega))) (sf_JO_nil))))))))
    (fun Wt Post hs hm => rX1_zip hs hm)
-- ===== StreamFuser$Maker.fill(II)Z =====
abbrev tX1_fill : List (Nat × sf_E) := [(0, (.aload_n 0, 1, 0, .null, [], [])), (1, (.getfield 36, 4, 0, .null, [], [(0, 2), (1, 0), (8, 2)])), (4, (.getfield 56, 7, 0, .null, [], [(2, 0)])), (7, (.iload_n 1, 8, 0, .null, [], [])), (8, (.iaload, 9, 0, .null, [], [])), (9, (.invokestatic 59, 12, 0, .null, [], [])), (12, (.istore_n 3, 13, 0, .null, [], [])), (13, (.iload_n 3, 14, 0, .null, [], [])), (14, (.ifCond .ne 9, 17, 23, .null, [], [])), (17, (.aload_n 0, 18, 0, .null, [], [])), (18, (.iload_n 1, 19, 0, .null, [], [])), (19, (.invokevirtual 63, 22, 0, .null, [], [])), (22, (.ireturn, 23, 0, .null, [], [])), (23, (.aload_n 0, 24, 0, .null, [], [])), (24, (.aload_n 0, 25, 0, .null, [], [])), (25, (.getfield 36, 28, 0, .null, [], [(0, 2), (1, 0), (8, 2)])), (28, (.iload_n 1, 29, 0, .null, [], [])), (29, (.invokevirtual 66, 32, 0, .null, [], [])), (32, (.iload_n 2, 33, 0, .null, [], [])), (33, (.iconst 1, 34, 0, .int (1), [], [])), (34, (.iadd, 35, 0, .null, [], [])), (35, (.invokevirtual 28, 38, 0, .null, [], [])), (38, (.ifCond .ne 5, 41, 43, .null, [], [])), (41, (.iconst 0, 42, 0, .int (0), [], [])), (42, (.ireturn, 43, 0, .null, [], [])), (43, (.aload_n 0, 44, 0, .null, [], [])), (44, (.getfield 36, 47, 0, .null, [], [(0, 2), (1, 0), (8, 2)])), (47, (.getfield 56, 50, 0, .null, [], [(2, 0)])), (50, (.iload_n 1, 51, 0, .null, [], [])), (51, (.iaload, 52, 0, .null, [], [])), (52, (.bipush 120, 54, 0, .int (120), [], [])), (54, (.if_icmp .ne 10, 57, 64, .null, [], [])), (57, (.aload_n 0, 58, 0, .null, [], [])), (58, (.iload_n 1, 59, 0, .null, [], [])), (59, (.iload_n 2, 60, 0, .null, [], [])), (60, (.invokevirtual 69, 63, 0, .null, [], [])), (63, (.ireturn, 64, 0, .null, [], [])), (64, (.iload_n 3, 65, 0, .null, [], [])), (65, (.iconst 1, 66, 0, .int (1), [], [])), (66, (.if_icmp .ne 9, 69, 75, .null, [], [])), (69, (.aload_n 0, 70, 0, .null, [], [])), (70, (.iload_n 1, 71, 0, .null, [], [])), (71, (.invokevirtual 72, 74, 0, .null, [], [])), (74, (.ireturn, 75, 0, .null, [], [])), (75, (.aload_n 0, 76, 0, .null, [], [])), (76, (.getfield 36, 79, 0, .null, [], [(0, 2), (1, 0), (8, 2)])), (79, (.iload_n 1, 80, 0, .null, [], [])), (80, (.invokevirtual 75, 83, 0, .null, [], [])), (83, (.istore 4, 85, 0, .null, [], [])), (85, (.aload_n 0, 86, 0, .null, [], [])), (86, (.iload 4, 88, 0, .null, [], [])), (88, (.iload_n 2, 89, 0, .null, [], [])), (89, (.iconst 1, 90, 0, .int (1), [], [])), (90, (.iadd, 91, 0, .null, [], [])), (91, (.invokevirtual 28, 94, 0, .null, [], [])), (94, (.ifCond .ne 5, 97, 99, .null, [], [])), (97, (.iconst 0, 98, 0, .int (0), [], [])), (98, (.ireturn, 99, 0, .null, [], [])), (99, (.aload_n 0, 100, 0, .null, [], [])), (100, (.getfield 36, 103, 0, .null, [], [(0, 2), (1, 0), (8, 2)])), (103, (.getfield 56, 106, 0, .null, [], [(2, 0)])), (106, (.iload_n 1, 107, 0, .null, [], [])), (107, (.iaload, 108, 0, .null, [], [])), (108, (.bipush 99, 110, 0, .int (99), [], [])), (110, (.if_icmp .ne 30, 113, 140, .null, [], [])), (113, (.aload_n 0, 114, 0, .null, [], [])), (114, (.iload_n 1, 115, 0, .null, [], [])), (115, (.iload_n 1, 116, 0, .null, [], [])), (116, (.iconst 1, 117, 0, .int (1), [], [])), (117, (.iadd, 118, 0, .null, [], [])), (118, (.invokevirtual 78, 121, 0, .null, [], [])), (121, (.ifCond .eq 17, 124, 138, .null, [], [])), (124, (.aload_n 0, 125, 0, .null, [], [])), (125, (.iload_n 1, 126, 0, .null, [], [])), (126, (.iload 4, 128, 0, .null, [], [])), (128, (.invokevirtual 78, 131, 0, .null, [], [])), (131, (.ifCond .eq 7, 134, 138, .null, [], [])), (134, (.iconst 1, 135, 0, .int (1), [], [])), (135, (.goto 4, 138, 139, .null, [], [])), (138, (.iconst 0, 139, 0, .int (0), [], [])), (139, (.ireturn, 140, 0, .null, [], [])), (140, (.aload_n 0, 141, 0, .null, [], [])), (141, (.iload_n 1, 142, 0, .null, [], [])), (142, (.iload 4, 144, 0, .null, [], [])), (144, (.invokevirtual 81, 147, 0, .null, [], [])), (147, (.iconst 1, 148, 0, .int (1), [], [])), (148, (.ireturn, 149, 0, .null, [], []))]
noncomputable abbrev jX1_fill (G : Int32 → Int32 → sf_S → Option (Int32 × sf_S)) : List (Nat × sf_J (Int32 × sf_S)) := [(9, sf_jI sf_layC [] 1 gX2_partsOf), (19, sf_jI sf_layC [1] 2 gX1_fillFromProducer), (29, sf_jI sf_layC [2] 2 gX2_input), (35, sf_jI sf_layC [1] 3 (gX1_makeG G)), (60, sf_jI sf_layC [1] 3 (gX1_fillByOpening G)), (71, sf_jI sf_layC [1] 2 gX1_fillFromInput), (80, sf_jI sf_layC [2] 2 gX2_secondPart), (91, sf_jI sf_layC [1] 3 (gX1_makeG G)), (118, sf_jI sf_layC [1] 3 gX1_addRow), (128, sf_jI sf_layC [1] 3 gX1_addRow), (144, sf_jV sf_layC [1] 3 gX1_zip)]
noncomputable def dX1_fill (G : Int32 → Int32 → sf_S → Option (Int32 × sf_S)) (x1 : Int32) (x2 : Int32) (σ : sf_S) : Option (Int32 × sf_S) :=
  if sf_in x1 40 then
    (dX2_partsOf (σ 2 x1.toNatClampNeg) σ).bind fun u1 =>
    if ¬ u1.1 = 0 then
      (dX2_input 1 x1 u1.2).bind fun u2 =>
      (G u2.1 (x2 + (1 : Int32)) u2.2).bind fun u3 =>
      if ¬ u3.1 = 0 then
        if sf_in x1 40 then
          if ¬ (u3.2 2 x1.toNatClampNeg) = (120 : Int32) then
            if ¬ u1.1 = (1 : Int32) then
              (dX2_secondPart 1 x1 u3.2).bind fun u4 =>
              (G u4.1 (x2 + (1 : Int32)) u4.2).bind fun u5 =>
              if ¬ u5.1 = 0 then
                if sf_in x1 40 then
                  if ¬ (u5.2 2 x1.toNatClampNeg) = (99 : Int32) then
                    (dX1_zip x1 u4.1 u5.2).bind fun u6 =>
                    some ((1 : Int32), u6)
                  else
                    (dX1_addRow x1 (x1 + (1 : Int32)) u5.2).bind fun u7 =>
                    if u7.1 = 0 then
                      some ((0 : Int32), u7.2)
                    else
                      (dX1_addRow x1 u4.1 u7.2).bind fun u8 =>
                      if u8.1 = 0 then
                        some ((0 : Int32), u8.2)
                      else
                        some ((1 : Int32), u8.2)
                else
                  none
              else
                some ((0 : Int32), u5.2)
            else
              (dX1_fillFromInput x1 u3.2).bind fun u9 =>
              if sf_01 u9.1 then some (u9.1, u9.2) else none
          else
            (dX1_fillByOpening G x1 x2 u3.2).bind fun u10 =>
            if sf_01 u10.1 then some (u10.1, u10.2) else none
        else
          none
      else
        some ((0 : Int32), u3.2)
    else
      (dX1_fillFromProducer x1 u1.2).bind fun u11 =>
      if sf_01 u11.1 then some (u11.1, u11.2) else none
  else
    none
noncomputable abbrev gX1_fill (G : Int32 → Int32 → sf_S → Option (Int32 × sf_S)) (av : List Value) (σ : sf_S) : Option (Int32 × sf_S) := match av with
  | [.ref q, .int x1, .int x2] => (match sf_rv [32] q with | true => dX1_fill G x1 x2 σ | false => none)
  | _ => none
set_option maxRecDepth 100000 in
set_option maxHeartbeats 4000000 in
theorem rX1_fill {Wt : Nat → sf_L → List Value → sf_S → Prop} {Post : (Int32 × sf_S) → Prop} {G : Int32 → Int32 → sf_S → Option (Int32 × sf_S)} (hs : sf_Snd Wt sf_layC sf_hZ (jX1_fill G) tX1_fill Post) (hm : sf_mono Wt) : ∀ av σ u, gX1_fill G av σ = some u → Post u → (∀ ad, (lg_sl (av.map (sf_v ad))).length ≤ 5) ∧ Wt 0 (sf_ent 0 av) [] σ := by
  intro av σ u h hp
  unfold gX1_fill at h
  split at h
  · rename_i q x1 x2
    split at h
    · rename_i hq
      have hq : q = 32 := by simpa using sf_rv_mem hq
      subst hq
      refine ⟨fun ad => Nat.le_of_ble_eq_true rfl, ?_⟩
      exact sf_run_ok hs sf_sm_nil 92 0 _ _ σ u h hp
    · cases h
  · cases h
theorem kX1_fill (l : Launch) {f o : Nat} {G : Int32 → Int32 → sf_S → Option (Int32 × sf_S)} (hG : sf_C l sf_layC yX1_make cX1_make 3 (some .boolean) (sf_rm f o) (fun av σ => (gX1_makeG G av σ).map sf_vI)) : sf_C l sf_layC yX1_fill cX1_fill 5 (some .boolean) (sf_rm (f + 10) (o + 374)) (fun av σ => (gX1_fill G av σ).map sf_vI) :=
  sf_met (tab := tX1_fill) (J := jX1_fill G) (fl := sf_fl1) (cl := sf_cl1) (by decide +kernel) ⟨rfl, rfl⟩ sf_RH_Z (by decide +kernel) sf_fl1_ok sf_cl1_ok
    (sf_JO_cons (sf_je_SN (n := 1) (tv := sf_vI) "StreamFuser" (kX2_partsOf l) mwX2_partsOf (by decide +kernel : decode cX1_fill 9 = .ok (.invokestatic 59, 3)) wt_854 wt_570 (by decide +kernel) (sf_RM_of (by omega) (by omega))) (sf_JO_cons (sf_je_V (n := 2) (cs := [1]) (tv := sf_vI) (kX1_fillFromProducer l) mwX1_fillFromProducer (by decide +kernel : decode cX1_fill 19 = .ok (.invokevirtual 63, 3)) wt_855 wt_857 wt_54 (by decide +kernel) (by decide) (by decide) (List.forall_mem_cons.mpr ⟨⟨_, _, rfl⟩, fun _ h => absurd h List.not_mem_nil⟩) (sf_RM_of (by omega) (by omega))) (sf_JO_cons (sf_je_N (n := 2) (cs := [2]) (tv := sf_vI) "StreamFuser" (kX2_input l) mwX2_input (by decide +kernel : decode cX1_fill 29 = .ok (.invokevirtual 66, 3)) wt_875 wt_518 wt_9 (by decide +kernel) (by decide) (by decide) (List.forall_mem_cons.mpr ⟨⟨_, _, rfl⟩, fun _ h => absurd h List.not_mem_nil⟩) (sf_RM_of (by omega) (by omega))) (sf_JO_cons (sf_je_V (n := 3) (cs := [1]) (tv := sf_vI) hG mwX1_make (by decide +kernel : decode cX1_fill 35 = .ok (.invokevirtual 28, 3)) wt_845 wt_847 wt_52 (by decide +kernel) (by decide) (by decide) (List.forall_mem_cons.mpr ⟨⟨_, _, rfl⟩, fun _ h => absurd h List.not_mem_nil⟩) (sf_RM_of (by omega) (by omega))) (sf_JO_cons (sf_je_V (n := 3) (cs := [1]) (tv := sf_vI) (kX1_fillByOpening l hG) mwX1_fillByOpening (by decide +kernel : decode cX1_fill 60 = .ok (.invokevirtual 69, 3)) wt_876 wt_878 wt_56 (by decide +kernel) (by decide) (by decide) (List.forall_mem_cons.mpr ⟨⟨_, _, rfl⟩, fun _ h => absurd h List.not_mem_nil⟩) (sf_RM_of (by omega) (by omega))) (sf_JO_cons (sf_je_V (n := 2) (cs := [1]) (tv := sf_vI) (kX1_fillFromInput l) mwX1_fillFromInput (by decide +kernel : decode cX1_fill 71 = .ok (.invokevirtual 72, 3)) wt_891 wt_893 wt_59 (by decide +kernel) (by decide) (by decide) (List.forall_mem_cons.mpr ⟨⟨_, _, rfl⟩, fun _ h => absurd h List.not_mem_nil⟩) (sf_RM_of (by omega) (by omega))) (sf_JO_cons (sf_je_N (n := 2) (cs := [2]) (tv := sf_vI) "StreamFuser" (kX2_secondPart l) mwX2_secondPart (by decide +kernel : decode cX1_fill 80 = .ok (.invokevirtual 75, 3)) wt_901 wt_514 wt_8 (by decide +kernel) (by decide) (by decide) (List.forall_mem_cons.mpr ⟨⟨_, _, rfl⟩, fun _ h => absurd h List.not_mem_nil⟩) (sf_RM_of (by omega) (by omega))) (sf_JO_cons (sf_je_V (n := 3) (cs := [1]) (tv := sf_vI) hG mwX1_make (by decide +kernel : decode cX1_fill 91 = .ok (.invokevirtual 28, 3)) wt_845 wt_847 wt_52 (by decide +kernel) (by decide) (by decide) (List.forall_mem_cons.mpr ⟨⟨_, _, rfl⟩, fun _ h => absurd h List.not_mem_nil⟩) (sf_RM_of (by omega) (by omega))) (sf_JO_cons (sf_je_V (n := 3) (cs := [1]) (tv := sf_vI) (kX1_addRow l) mwX1_addRow (by decide +kernel : decode cX1_fill 118 = .ok (.invokevirtual 78, 3)) wt_884 wt_886 wt_58 (by decide +kernel) (by decide) (by decide) (List.forall_mem_cons.mpr ⟨⟨_, _, rfl⟩, fun _ h => absurd h List.not_mem_nil⟩) (sf_RM_of (by omega) (by omega))) (sf_JO_cons (sf_je_V (n := 3) (cs := [1]) (tv := sf_vI) (kX1_addRow l) mwX1_addRow (by decide +kernel : decode cX1_fill 128 = .ok (.invokevirtual 78, 3)) wt_884 wt_886 wt_58 (by decide +kernel) (by decide) (by decide) (List.forall_mem_cons.mpr ⟨⟨_, _, rfl⟩, fun _ h => absurd h List.not_mem_nil⟩) (sf_RM_of (by omega) (by omega))) (sf_JO_cons (sf_je_V (n := 3) (cs := [1]) (tv := sf_vV) (kX1_zip l) mwX1_zip (by decide +kernel : decode cX1_fill 144 = .ok (.invokevirtual 81, 3)) wt_902 wt_904 wt_60 (by decide +kernel) (by decide) (by decide) (List.forall_mem_cons.mpr ⟨⟨_, _, rfl⟩, fun _ h => absurd h List.not_mem_nil⟩) (sf_RM_of (by omega) (by omega))) (sf_JO_nil))))))))))))
    (fun Wt Post hs hm => rX1_fill hs hm)
-- ===== StreamFuser$Maker.make(II)Z =====
abbrev tX1_make : List (Nat × sf_E) := [(0, (.aload_n 0, 1, 0, .null, [], [])), (1, (.getfield 36, 4, 0, .null, [], [(0, 2), (1, 0), (8, 2)])), (4, (.iload_n 1, 5, 0, .null, [], [])), (5, (.invokevirtual 40, 8, 0, .null, [], [])), (8, (.ifCond .eq 9, 11, 17, .null, [], [])), (11, (.iload_n 2, 12, 0, .null, [], [])), (12, (.bipush 40, 14, 0, .int (40), [], [])), (14, (.if_icmp .le 5, 17, 19, .null, [], [])), (17, (.iconst 0, 18, 0, .int (0), [], [])), (18, (.ireturn, 19, 0, .null, [], [])), (19, (.aload_n 0, 20, 0, .null, [], [])), (20, (.getfield 15, 23, 0, .null, [], [(1, 6)])), (23, (.iload_n 1, 24, 0, .null, [], [])), (24, (.iconst 0, 25, 0, .int (0), [], [])), (25, (.iastore, 26, 0, .null, [], [])), (26, (.aload_n 0, 27, 0, .null, [], [])), (27, (.iload_n 1, 28, 0, .null, [], [])), (28, (.iload_n 2, 29, 0, .null, [], [])), (29, (.invokevirtual 46, 32, 0, .null, [], [])), (32, (.ifCond .ne 5, 35, 37, .null, [], [])), (35, (.iconst 0, 36, 0, .int (0), [], [])), (36, (.ireturn, 37, 0, .null, [], [])), (37, (.aload_n 0, 38, 0, .null, [], [])), (38, (.getfield 18, 41, 0, .null, [], [(0, 3), (1, 1), (8, 3)])), (41, (.dup, 42, 0, .null, [], [])), (42, (.getfield 49, 45, 0, .null, [], [(6, 3)])), (45, (.iconst 1, 46, 0, .int (1), [], [])), (46, (.iadd, 47, 0, .null, [], [])), (47, (.putfield 49, 50, 0, .null, [], [(6, 3)])), (50, (.aload_n 0, 51, 0, .null, [], [])), (51, (.getfield 18, 54, 0, .null, [], [(0, 3), (1, 1), (8, 3)])), (54, (.dup, 55, 0, .null, [], [])), (55, (.getfield 53, 58, 0, .null, [], [(6, 4)])), (58, (.aload_n 0, 59, 0, .null, [], [])), (59, (.getfield 15, 62, 0, .null, [], [(1, 6)])), (62, (.iload_n 1, 63, 0, .null, [], [])), (63, (.iaload, 64, 0, .null, [], [])), (64, (.iadd, 65, 0, .null, [], [])), (65, (.putfield 53, 68, 0, .null, [], [(6, 4)])), (68, (.iconst 1, 69, 0, .int (1), [], [])), (69, (.ireturn, 70, 0, .null, [], []))]
noncomputable abbrev jX1_make (G : Int32 → Int32 → sf_S → Option (Int32 × sf_S)) : List (Nat × sf_J (Int32 × sf_S)) := [(5, sf_jI sf_layC [2] 2 gX2_has), (29, sf_jI sf_layC [1] 3 (gX1_fill G))]
noncomputable def dX1_make (G : Int32 → Int32 → sf_S → Option (Int32 × sf_S)) (x1 : Int32) (x2 : Int32) (σ : sf_S) : Option (Int32 × sf_S) :=
  (dX2_has 1 x1 σ).bind fun u1 =>
  if u1.1 = 0 then
    some ((0 : Int32), u1.2)
  else
    if x2 ≤ (40 : Int32) then
      if sf_in x1 40 then
        let s2 := sf_up u1.2 35 x1.toNatClampNeg (0 : Int32)
        (dX1_fill G x1 x2 s2).bind fun u3 =>
        if ¬ u3.1 = 0 then
          let s4 := sf_up u3.2 19 3 ((u3.2 19 3) + (1 : Int32))
          if sf_in x1 40 then
            let s5 := sf_up s4 19 4 ((s4 19 4) + (s4 35 x1.toNatClampNeg))
            some ((1 : Int32), s5)
          else
            none
        else
          some ((0 : Int32), u3.2)
      else
        none
    else
      some ((0 : Int32), u1.2)
noncomputable abbrev gX1_make (G : Int32 → Int32 → sf_S → Option (Int32 × sf_S)) (av : List Value) (σ : sf_S) : Option (Int32 × sf_S) := match av with
  | [.ref q, .int x1, .int x2] => (match sf_rv [32] q with | true => dX1_make G x1 x2 σ | false => none)
  | _ => none
set_option maxRecDepth 100000 in
set_option maxHeartbeats 4000000 in
theorem rX1_make {Wt : Nat → sf_L → List Value → sf_S → Prop} {Post : (Int32 × sf_S) → Prop} {G : Int32 → Int32 → sf_S → Option (Int32 × sf_S)} (hs : sf_Snd Wt sf_layC sf_hZ (jX1_make G) tX1_make Post) (hm : sf_mono Wt) : ∀ av σ u, gX1_make G av σ = some u → Post u → (∀ ad, (lg_sl (av.map (sf_v ad))).length ≤ 3) ∧ Wt 0 (sf_ent 0 av) [] σ := by
  intro av σ u h hp
  unfold gX1_make at h
  split at h
  · rename_i q x1 x2
    split at h
    · rename_i hq
      have hq : q = 32 := by simpa using sf_rv_mem hq
      subst hq
      refine ⟨fun ad => Nat.le_of_ble_eq_true rfl, ?_⟩
      exact sf_run_ok hs sf_sm_nil 46 0 _ _ σ u h hp
    · cases h
  · cases h
theorem kX1_make_B (l : Launch) {f o : Nat} {G : Int32 → Int32 → sf_S → Option (Int32 × sf_S)} (hG : sf_C l sf_layC yX1_make cX1_make 3 (some .boolean) (sf_rm f o) (fun av σ => (gX1_makeG G av σ).map sf_vI)) : sf_C l sf_layC yX1_make cX1_make 3 (some .boolean) (sf_rm (f + 11) (o + 398)) (fun av σ => (gX1_make G av σ).map sf_vI) :=
  sf_met (tab := tX1_make) (J := jX1_make G) (fl := sf_fl1) (cl := sf_cl1) (by decide +kernel) ⟨rfl, rfl⟩ sf_RH_Z (by decide +kernel) sf_fl1_ok sf_cl1_ok
    (sf_JO_cons (sf_je_N (n := 2) (cs := [2]) (tv := sf_vI) "StreamFuser" (kX2_has l) mwX2_has (by decide +kernel : decode cX1_make 5 = .ok (.invokevirtual 40, 3)) wt_849 wt_470 wt_0 (by decide +kernel) (by decide) (by decide) (List.forall_mem_cons.mpr ⟨⟨_, _, rfl⟩, fun _ h => absurd h List.not_mem_nil⟩) (sf_RM_of (by omega) (by omega))) (sf_JO_cons (sf_je_V (n := 3) (cs := [1]) (tv := sf_vI) (kX1_fill l hG) mwX1_fill (by decide +kernel : decode cX1_make 29 = .ok (.invokevirtual 46, 3)) wt_850 wt_852 wt_53 (by decide +kernel) (by decide) (by decide) (List.forall_mem_cons.mpr ⟨⟨_, _, rfl⟩, fun _ h => absurd h List.not_mem_nil⟩) (sf_RM_of (by omega) (by omega))) (sf_JO_nil)))
    (fun Wt Post hs hm => rX1_make hs hm)
noncomputable def dX1_make_R : Nat → Int32 → Int32 → sf_S → Option (Int32 × sf_S)
  | 0 => fun _ _ _ => none
  | n + 1 => fun x1 x2 σ => dX1_make (dX1_make_R n) x1 x2 σ
theorem kX1_make_R (l : Launch) : ∀ n : Nat, sf_C l sf_layC yX1_make cX1_make 3 (some .boolean) (sf_rm (20 + 11 * n) (1000 + 398 * n)) (fun av σ => (gX1_makeG (dX1_make_R n) av σ).map sf_vI)
  | 0 => sf_C_none fun av σ => by
    unfold gX1_makeG
    split
    · split <;> rfl
    · rfl
  | n + 1 => by
    have := kX1_make_B l (kX1_make_R l n)
    rw [show 20 + 11 * n + 11 = 20 + 11 * (n + 1) by omega, show 1000 + 398 * n + 398 = 1000 + 398 * (n + 1) by omega] at this
    exact this
noncomputable abbrev gX1_make_Z : List Value → sf_S → Option (Int32 × sf_S) := gX1_makeG (dX1_make_R 42)
theorem kX1_make_Z (l : Launch) : sf_C l sf_layC yX1_make cX1_make 3 (some .boolean) (sf_rm 482 17716) (fun av σ => (gX1_make_Z av σ).map sf_vI) := kX1_make_R l 42
-- ===== StreamFuser$Maker.play(I)V =====
abbrev tX1_play : List (Nat × sf_E) := [(0, (.aload_n 0, 1, 0, .null, [], [])), (1, (.getfield 18, 4, 0, .null, [], [(0, 3), (1, 1), (8, 3)])), (4, (.invokevirtual 22, 7, 0, .null, [], [])), (7, (.aload_n 0, 8, 0, .null, [], [])), (8, (.iconst 0, 9, 0, .int (0), [], [])), (9, (.iconst 0, 10, 0, .int (0), [], [])), (10, (.invokevirtual 28, 13, 0, .null, [], [])), (13, (.ifCond .ne 4, 16, 17, .null, [], [])), (16, (.return_, 17, 0, .null, [], [])), (17, (.iconst 0, 18, 0, .int (0), [], [])), (18, (.istore_n 2, 19, 0, .null, [], [])), (19, (.iload_n 2, 20, 0, .null, [], [])), (20, (.iload_n 1, 21, 0, .null, [], [])), (21, (.if_icmp .ge 32, 24, 53, .null, [], [])), (24, (.iload_n 2, 25, 0, .null, [], [])), (25, (.aload_n 0, 26, 0, .null, [], [])), (26, (.getfield 15, 29, 0, .null, [], [(1, 6)])), (29, (.iconst 0, 30, 0, .int (0), [], [])), (30, (.iaload, 31, 0, .null, [], [])), (31, (.if_icmp .ge 22, 34, 53, .null, [], [])), (34, (.aload_n 0, 35, 0, .null, [], [])), (35, (.getfield 18, 38, 0, .null, [], [(0, 3), (1, 1), (8, 3)])), (38, (.aload_n 0, 39, 0, .null, [], [])), (39, (.getfield 9, 42, 0, .null, [], [(1, 5)])), (42, (.iload_n 2, 43, 0, .null, [], [])), (43, (.iaload, 44, 0, .null, [], [])), (44, (.invokevirtual 32, 47, 0, .null, [], [])), (47, (.iinc 2 1, 50, 0, .int (1), [], [])), (50, (.goto (-31), 53, 19, .null, [], [])), (53, (.return_, 54, 0, .null, [], []))]
noncomputable abbrev jX1_play : List (Nat × sf_J sf_S) := [(4, sf_jV sf_layC [6] 1 gX6_begin), (10, sf_jI sf_layC [1] 3 gX1_make_Z), (44, sf_jV sf_layC [6] 2 gX6_give)]
abbrev wX1_play_19 {ρ : Type} (k : Int32 → Int32 → sf_S → Option ρ) : sf_M ρ := fun L st σ => sf_lda L 0 fun a0 => sf_eq a0 32 (sf_ldi L 1 fun x1 => sf_ldi L 2 fun x2 => sf_nil st (k x1 x2 σ))
theorem wX1_play_19_ok {ρ : Type} {Wt : Nat → sf_L → List Value → sf_S → Prop} {Post : ρ → Prop} (hm : sf_mono Wt) {k : Int32 → Int32 → sf_S → Option ρ} (h : ∀ (x1 : Int32) (x2 : Int32) (σ : sf_S) (u : ρ), k x1 x2 σ = some u → Post u → Wt 19 [(0, some (.ref 32)), (1, some (.int x1)), (2, some (.int x2))] [] σ) : sf_CK Wt Post 19 (wX1_play_19 k) := by
  intro L st σ u hf hp
  unfold wX1_play_19 at hf
  have hf0 := hf
  obtain ⟨a0, e0, hf1⟩ := sf_lda_inv hf0
  obtain ⟨rfl, hf2⟩ := sf_eq_inv hf1
  obtain ⟨x1, e1, hf3⟩ := sf_ldi_inv hf2
  obtain ⟨x2, e2, hf4⟩ := sf_ldi_inv hf3
  obtain ⟨rfl, hz⟩ := sf_nil_inv hf4
  exact hm _ [(0, some (.ref _)), (1, some (.int x1)), (2, some (.int x2))] _ _ _ (sf_le_ok (And.intro e0 (And.intro e1 (And.intro e2 trivial)))) (h _ _ _ _ hz hp)
noncomputable def dX1_play_19 : Nat → Int32 → Int32 → sf_S → Option sf_S
  | 0 => fun _ _ _ => none
  | n + 1 => fun x1 x2 σ =>
    if x1 ≤ x2 then
      some σ
    else
      if sf_in (0 : Int32) 40 then
        if (σ 35 ((0 : Int32)).toNatClampNeg) ≤ x2 then
          some σ
        else
          if sf_in x2 2400 then
            (dX6_give 19 (σ 34 x2.toNatClampNeg) σ).bind fun u1 =>
            dX1_play_19 n x1 (x2 + (1 : Int32)) u1
          else
            none
      else
        none
set_option maxRecDepth 100000 in
set_option maxHeartbeats 4000000 in
theorem rX1_play_19 {Wt : Nat → sf_L → List Value → sf_S → Prop} {Post : sf_S → Prop} (hs : sf_Snd Wt sf_layC sf_hV jX1_play tX1_play Post) (hm : sf_mono Wt) : ∀ n : Nat, sf_CK Wt Post 19 (wX1_play_19 (dX1_play_19 n)) := by
  intro n
  induction n with
  | zero => exact wX1_play_19_ok hm (fun x1 x2 σ u h _ => by simp [dX1_play_19] at h)
  | succ n ih =>
    refine wX1_play_19_ok hm ?_
    intro x1 x2 σ u h hp
    exact sf_run_ok hs (sf_sm_cons ih sf_sm_nil) 35 19 _ _ σ u h hp
noncomputable def dX1_play (x1 : Int32) (σ : sf_S) : Option sf_S :=
  (dX6_begin 19 σ).bind fun u1 =>
  (dX1_make_R 42 (0 : Int32) (0 : Int32) u1).bind fun u2 =>
  if ¬ u2.1 = 0 then
    dX1_play_19 sf_F x1 (0 : Int32) u2.2
  else
    some u2.2
noncomputable abbrev gX1_play (av : List Value) (σ : sf_S) : Option sf_S := match av with
  | [.ref q, .int x1] => (match sf_rv [32] q with | true => dX1_play x1 σ | false => none)
  | _ => none
set_option maxRecDepth 100000 in
set_option maxHeartbeats 4000000 in
theorem rX1_play {Wt : Nat → sf_L → List Value → sf_S → Prop} {Post : sf_S → Prop} (hs : sf_Snd Wt sf_layC sf_hV jX1_play tX1_play Post) (hm : sf_mono Wt) : ∀ av σ u, gX1_play av σ = some u → Post u → (∀ ad, (lg_sl (av.map (sf_v ad))).length ≤ 3) ∧ Wt 0 (sf_ent 0 av) [] σ := by
  intro av σ u h hp
  unfold gX1_play at h
  split at h
  · rename_i q x1
    split at h
    · rename_i hq
      have hq : q = 32 := by simpa using sf_rv_mem hq
      subst hq
      refine ⟨fun ad => Nat.le_of_ble_eq_true rfl, ?_⟩
      exact sf_run_ok hs (sf_sm_cons (rX1_play_19 hs hm sf_F) sf_sm_nil) 35 0 _ _ σ u h hp
    · cases h
  · cases h
theorem kX1_play (l : Launch) : sf_C l sf_layC yX1_play cX1_play 3 none (sf_rm 483 17738) (fun av σ => (gX1_play av σ).map sf_vV) :=
  sf_met (tab := tX1_play) (J := jX1_play) (fl := sf_fl1) (cl := sf_cl1) (by decide +kernel) ⟨rfl, rfl⟩ sf_RH_V (by decide +kernel) sf_fl1_ok sf_cl1_ok
    (sf_JO_cons (sf_je_N (n := 1) (cs := [6]) (tv := sf_vV) "StreamFuser" (kX6_begin l) mwX6_begin (by decide +kernel : decode cX1_play 4 = .ok (.invokevirtual 22, 3)) wt_844 wt_626 wt_28 (by decide +kernel) (by decide) (by decide) (List.forall_mem_cons.mpr ⟨⟨_, _, rfl⟩, fun _ h => absurd h List.not_mem_nil⟩) (sf_RM_of (by omega) (by omega))) (sf_JO_cons (sf_je_V (n := 3) (cs := [1]) (tv := sf_vI) (kX1_make_Z l) mwX1_make (by decide +kernel : decode cX1_play 10 = .ok (.invokevirtual 28, 3)) wt_845 wt_847 wt_52 (by decide +kernel) (by decide) (by decide) (List.forall_mem_cons.mpr ⟨⟨_, _, rfl⟩, fun _ h => absurd h List.not_mem_nil⟩) (sf_RM_of (by omega) (by omega))) (sf_JO_cons (sf_je_N (n := 2) (cs := [6]) (tv := sf_vV) "StreamFuser" (kX6_give l) mwX6_give (by decide +kernel : decode cX1_play 44 = .ok (.invokevirtual 32, 3)) wt_910 wt_781 wt_43 (by decide +kernel) (by decide) (by decide) (List.forall_mem_cons.mpr ⟨⟨_, _, rfl⟩, fun _ h => absurd h List.not_mem_nil⟩) (sf_RM_of (by omega) (by omega))) (sf_JO_nil))))
    (fun Wt Post hs hm => rX1_play hs hm)
