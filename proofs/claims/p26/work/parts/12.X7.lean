/-! ===== 12.X7 ===== -/
-- ===== StreamFuser$Sheets.isLost(I)Z =====
abbrev tX7_isLost : List (Nat × sf_E) := [(0, (.iload_n 1, 1, 0, .null, [], [])), (1, (.ifCond .lt 18, 4, 19, .null, [], [])), (4, (.iload_n 1, 5, 0, .null, [], [])), (5, (.iconst 4, 6, 0, .int (4), [], [])), (6, (.if_icmp .ge 13, 9, 19, .null, [], [])), (9, (.aload_n 0, 10, 0, .null, [], [])), (10, (.getfield 15, 13, 0, .null, [], [(7, 1)])), (13, (.iload_n 1, 14, 0, .null, [], [])), (14, (.iaload, 15, 0, .null, [], [])), (15, (.iconst (-1), 16, 0, .int (-1), [], [])), (16, (.if_icmp .ne 7, 19, 23, .null, [], [])), (19, (.iconst 1, 20, 0, .int (1), [], [])), (20, (.goto 4, 23, 24, .null, [], [])), (23, (.iconst 0, 24, 0, .int (0), [], [])), (24, (.ireturn, 25, 0, .null, [], []))]
noncomputable abbrev jX7_isLost : List (Nat × sf_J (Int32 × sf_S)) := []
noncomputable def dX7_isLost (x1 : Int32) (σ : sf_S) : Option (Int32 × sf_S) :=
  if x1 < 0 then
    some ((1 : Int32), σ)
  else
    if (4 : Int32) ≤ x1 then
      some ((1 : Int32), σ)
    else
      if sf_in x1 4 then
        if ¬ (σ 17 x1.toNatClampNeg) = (-1 : Int32) then
          some ((0 : Int32), σ)
        else
          some ((1 : Int32), σ)
      else
        none
noncomputable abbrev gX7_isLost (av : List Value) (σ : sf_S) : Option (Int32 × sf_S) := match av with
  | [.ref q, .int x1] => (match sf_rv [15] q with | true => dX7_isLost x1 σ | false => none)
  | _ => none
set_option maxRecDepth 100000 in
set_option maxHeartbeats 4000000 in
theorem rX7_isLost {Wt : Nat → sf_L → List Value → sf_S → Prop} {Post : (Int32 × sf_S) → Prop} (hs : sf_Snd Wt sf_layC sf_hZ jX7_isLost tX7_isLost Post) (hm : sf_mono Wt) : ∀ av σ u, gX7_isLost av σ = some u → Post u → (∀ ad, (lg_sl (av.map (sf_v ad))).length ≤ 2) ∧ Wt 0 (sf_ent 0 av) [] σ := by
  intro av σ u h hp
  unfold gX7_isLost at h
  split at h
  · rename_i q x1
    split at h
    · rename_i hq
      have hq : q = 15 := by simpa using sf_rv_mem hq
      subst hq
      refine ⟨fun ad => Nat.le_of_ble_eq_true rfl, ?_⟩
      exact sf_run_ok hs sf_sm_nil 20 0 _ _ σ u h hp
    · cases h
  · cases h
theorem kX7_isLost (l : Launch) : sf_C l sf_layC yX7_isLost cX7_isLost 2 (some .boolean) (sf_rm 1 100) (fun av σ => (gX7_isLost av σ).map sf_vI) :=
  sf_met (tab := tX7_isLost) (J := jX7_isLost) (fl := sf_fl7) (cl := sf_cl7) (by decide +kernel) ⟨rfl, rfl⟩ sf_RH_Z (by decide +kernel) sf_fl7_ok sf_cl7_ok
    (sf_JO_nil)
    (fun Wt Post hs hm => rX7_isLost hs hm)
-- ===== StreamFuser$Sheets.hasElement(II)Z =====
abbrev tX7_hasElement : List (Nat × sf_E) := [(0, (.iload_n 1, 1, 0, .null, [], [])), (1, (.ifCond .lt 26, 4, 27, .null, [], [])), (4, (.iload_n 1, 5, 0, .null, [], [])), (5, (.iconst 4, 6, 0, .int (4), [], [])), (6, (.if_icmp .ge 21, 9, 27, .null, [], [])), (9, (.iload_n 2, 10, 0, .null, [], [])), (10, (.ifCond .lt 17, 13, 27, .null, [], [])), (13, (.iload_n 2, 14, 0, .null, [], [])), (14, (.aload_n 0, 15, 0, .null, [], [])), (15, (.getfield 15, 18, 0, .null, [], [(7, 1)])), (18, (.iload_n 1, 19, 0, .null, [], [])), (19, (.iaload, 20, 0, .null, [], [])), (20, (.if_icmp .ge 7, 23, 27, .null, [], [])), (23, (.iconst 1, 24, 0, .int (1), [], [])), (24, (.goto 4, 27, 28, .null, [], [])), (27, (.iconst 0, 28, 0, .int (0), [], [])), (28, (.ireturn, 29, 0, .null, [], []))]
noncomputable abbrev jX7_hasElement : List (Nat × sf_J (Int32 × sf_S)) := []
noncomputable def dX7_hasElement (x1 : Int32) (x2 : Int32) (σ : sf_S) : Option (Int32 × sf_S) :=
  if x1 < 0 then
    some ((0 : Int32), σ)
  else
    if (4 : Int32) ≤ x1 then
      some ((0 : Int32), σ)
    else
      if x2 < 0 then
        some ((0 : Int32), σ)
      else
        if sf_in x1 4 then
          if (σ 17 x1.toNatClampNeg) ≤ x2 then
            some ((0 : Int32), σ)
          else
            some ((1 : Int32), σ)
        else
          none
noncomputable abbrev gX7_hasElement (av : List Value) (σ : sf_S) : Option (Int32 × sf_S) := match av with
  | [.ref q, .int x1, .int x2] => (match sf_rv [15] q with | true => dX7_hasElement x1 x2 σ | false => none)
  | _ => none
set_option maxRecDepth 100000 in
set_option maxHeartbeats 4000000 in
theorem rX7_hasElement {Wt : Nat → sf_L → List Value → sf_S → Prop} {Post : (Int32 × sf_S) → Prop} (hs : sf_Snd Wt sf_layC sf_hZ jX7_hasElement tX7_hasElement Post) (hm : sf_mono Wt) : ∀ av σ u, gX7_hasElement av σ = some u → Post u → (∀ ad, (lg_sl (av.map (sf_v ad))).length ≤ 3) ∧ Wt 0 (sf_ent 0 av) [] σ := by
  intro av σ u h hp
  unfold gX7_hasElement at h
  split at h
  · rename_i q x1 x2
    split at h
    · rename_i hq
      have hq : q = 15 := by simpa using sf_rv_mem hq
      subst hq
      refine ⟨fun ad => Nat.le_of_ble_eq_true rfl, ?_⟩
      exact sf_run_ok hs sf_sm_nil 22 0 _ _ σ u h hp
    · cases h
  · cases h
theorem kX7_hasElement (l : Launch) : sf_C l sf_layC yX7_hasElement cX7_hasElement 3 (some .boolean) (sf_rm 1 100) (fun av σ => (gX7_hasElement av σ).map sf_vI) :=
  sf_met (tab := tX7_hasElement) (J := jX7_hasElement) (fl := sf_fl7) (cl := sf_cl7) (by decide +kernel) ⟨rfl, rfl⟩ sf_RH_Z (by decide +kernel) sf_fl7_ok sf_cl7_ok
    (sf_JO_nil)
    (fun Wt Post hs hm => rX7_hasElement hs hm)
-- ===== StreamFuser$Sheets.renew(III)V =====
abbrev tX7_renew : List (Nat × sf_E) := [(0, (.iload_n 1, 1, 0, .null, [], [])), (1, (.ifCond .lt 18, 4, 19, .null, [], [])), (4, (.iload_n 1, 5, 0, .null, [], [])), (5, (.iconst 4, 6, 0, .int (4), [], [])), (6, (.if_icmp .ge 13, 9, 19, .null, [], [])), (9, (.iload_n 3, 10, 0, .null, [], [])), (10, (.ifCond .lt 9, 13, 19, .null, [], [])), (13, (.iload_n 3, 14, 0, .null, [], [])), (14, (.bipush 60, 16, 0, .int (60), [], [])), (16, (.if_icmp .le 4, 19, 20, .null, [], [])), (19, (.return_, 20, 0, .null, [], [])), (20, (.aload_n 0, 21, 0, .null, [], [])), (21, (.getfield 9, 24, 0, .null, [], [(7, 0)])), (24, (.iload_n 1, 25, 0, .null, [], [])), (25, (.iload_n 2, 26, 0, .null, [], [])), (26, (.iastore, 27, 0, .null, [], [])), (27, (.aload_n 0, 28, 0, .null, [], [])), (28, (.getfield 15, 31, 0, .null, [], [(7, 1)])), (31, (.iload_n 1, 32, 0, .null, [], [])), (32, (.iload_n 3, 33, 0, .null, [], [])), (33, (.iastore, 34, 0, .null, [], [])), (34, (.iconst 0, 35, 0, .int (0), [], [])), (35, (.istore 4, 37, 0, .null, [], [])), (37, (.iload 4, 39, 0, .null, [], [])), (39, (.iload_n 3, 40, 0, .null, [], [])), (40, (.if_icmp .ge 22, 43, 62, .null, [], [])), (43, (.aload_n 0, 44, 0, .null, [], [])), (44, (.getfield 18, 47, 0, .null, [], [(7, 2)])), (47, (.iload_n 1, 48, 0, .null, [], [])), (48, (.bipush 60, 50, 0, .int (60), [], [])), (50, (.imul, 51, 0, .null, [], [])), (51, (.iload 4, 53, 0, .null, [], [])), (53, (.iadd, 54, 0, .null, [], [])), (54, (.iconst 0, 55, 0, .int (0), [], [])), (55, (.iastore, 56, 0, .null, [], [])), (56, (.iinc 4 1, 59, 0, .int (1), [], [])), (59, (.goto (-22), 62, 37, .null, [], [])), (62, (.return_, 63, 0, .null, [], []))]
noncomputable abbrev jX7_renew : List (Nat × sf_J sf_S) := []
abbrev wX7_renew_37 {ρ : Type} (k : Int32 → Int32 → Int32 → sf_S → Option ρ) : sf_M ρ := fun L st σ => sf_lda L 0 fun a0 => sf_eq a0 15 (sf_ldi L 1 fun x1 => sf_ldi L 3 fun x3 => sf_ldi L 4 fun x4 => sf_nil st (k x1 x3 x4 σ))
theorem wX7_renew_37_ok {ρ : Type} {Wt : Nat → sf_L → List Value → sf_S → Prop} {Post : ρ → Prop} (hm : sf_mono Wt) {k : Int32 → Int32 → Int32 → sf_S → Option ρ} (h : ∀ (x1 : Int32) (x3 : Int32) (x4 : Int32) (σ : sf_S) (u : ρ), k x1 x3 x4 σ = some u → Post u → Wt 37 [(0, some (.ref 15)), (1, some (.int x1)), (3, some (.int x3)), (4, some (.int x4))] [] σ) : sf_CK Wt Post 37 (wX7_renew_37 k) := by
  intro L st σ u hf hp
  unfold wX7_renew_37 at hf
  have hf0 := hf
  obtain ⟨a0, e0, hf1⟩ := sf_lda_inv hf0
  obtain ⟨rfl, hf2⟩ := sf_eq_inv hf1
  obtain ⟨x1, e1, hf3⟩ := sf_ldi_inv hf2
  obtain ⟨x3, e3, hf4⟩ := sf_ldi_inv hf3
  obtain ⟨x4, e4, hf5⟩ := sf_ldi_inv hf4
  obtain ⟨rfl, hz⟩ := sf_nil_inv hf5
  exact hm _ [(0, some (.ref _)), (1, some (.int x1)), (3, some (.int x3)), (4, some (.int x4))] _ _ _ (sf_le_ok (And.intro e0 (And.intro e1 (And.intro e3 (And.intro e4 trivial))))) (h _ _ _ _ _ hz hp)
noncomputable def dX7_renew_37 : Nat → Int32 → Int32 → Int32 → sf_S → Option sf_S
  | 0 => fun _ _ _ _ => none
  | n + 1 => fun x1 x3 x4 σ =>
    if x3 ≤ x4 then
      some σ
    else
      let v1 := ((x1 * (60 : Int32)) + x4)
      if sf_in v1 240 then
        let s2 := sf_up σ 18 v1.toNatClampNeg (0 : Int32)
        dX7_renew_37 n x1 x3 (x4 + (1 : Int32)) s2
      else
        none
set_option maxRecDepth 100000 in
set_option maxHeartbeats 4000000 in
theorem rX7_renew_37 {Wt : Nat → sf_L → List Value → sf_S → Prop} {Post : sf_S → Prop} (hs : sf_Snd Wt sf_layC sf_hV jX7_renew tX7_renew Post) (hm : sf_mono Wt) : ∀ n : Nat, sf_CK Wt Post 37 (wX7_renew_37 (dX7_renew_37 n)) := by
  intro n
  induction n with
  | zero => exact wX7_renew_37_ok hm (fun x1 x3 x4 σ u h _ => by simp [dX7_renew_37] at h)
  | succ n ih =>
    refine wX7_renew_37_ok hm ?_
    intro x1 x3 x4 σ u h hp
    exact sf_run_ok hs (sf_sm_cons ih sf_sm_nil) 43 37 _ _ σ u h hp
noncomputable def dX7_renew (x1 : Int32) (x2 : Int32) (x3 : Int32) (σ : sf_S) : Option sf_S :=
  if x1 < 0 then
    some σ
  else
    if (4 : Int32) ≤ x1 then
      some σ
    else
      if x3 < 0 then
        some σ
      else
        if x3 ≤ (60 : Int32) then
          if sf_in x1 4 then
            let s1 := sf_up σ 16 x1.toNatClampNeg x2
            if sf_in x1 4 then
              let s2 := sf_up s1 17 x1.toNatClampNeg x3
              dX7_renew_37 sf_F x1 x3 (0 : Int32) s2
            else
              none
          else
            none
        else
          some σ
noncomputable abbrev gX7_renew (av : List Value) (σ : sf_S) : Option sf_S := match av with
  | [.ref q, .int x1, .int x2, .int x3] => (match sf_rv [15] q with | true => dX7_renew x1 x2 x3 σ | false => none)
  | _ => none
set_option maxRecDepth 100000 in
set_option maxHeartbeats 4000000 in
theorem rX7_renew {Wt : Nat → sf_L → List Value → sf_S → Prop} {Post : sf_S → Prop} (hs : sf_Snd Wt sf_layC sf_hV jX7_renew tX7_renew Post) (hm : sf_mono Wt) : ∀ av σ u, gX7_renew av σ = some u → Post u → (∀ ad, (lg_sl (av.map (sf_v ad))).length ≤ 5) ∧ Wt 0 (sf_ent 0 av) [] σ := by
  intro av σ u h hp
  unfold gX7_renew at h
  split at h
  · rename_i q x1 x2 x3
    split at h
    · rename_i hq
      have hq : q = 15 := by simpa using sf_rv_mem hq
      subst hq
      refine ⟨fun ad => Nat.le_of_ble_eq_true rfl, ?_⟩
      exact sf_run_ok hs (sf_sm_cons (rX7_renew_37 hs hm sf_F) sf_sm_nil) 43 0 _ _ σ u h hp
    · cases h
  · cases h
theorem kX7_renew (l : Launch) : sf_C l sf_layC yX7_renew cX7_renew 5 none (sf_rm 1 100) (fun av σ => (gX7_renew av σ).map sf_vV) :=
  sf_met (tab := tX7_renew) (J := jX7_renew) (fl := sf_fl7) (cl := sf_cl7) (by decide +kernel) ⟨rfl, rfl⟩ sf_RH_V (by decide +kernel) sf_fl7_ok sf_cl7_ok
    (sf_JO_nil)
    (fun Wt Post hs hm => rX7_renew hs hm)
-- ===== StreamFuser$Sheets.cast(II)I =====
abbrev tX7_cast : List (Nat × sf_E) := [(0, (.iload_n 0, 1, 0, .null, [], [])), (1, (.ifCond .ne 6, 4, 7, .null, [], [])), (4, (.iload_n 1, 5, 0, .null, [], [])), (5, (.i2b, 6, 0, .null, [], [])), (6, (.ireturn, 7, 0, .null, [], [])), (7, (.iload_n 0, 8, 0, .null, [], [])), (8, (.iconst 1, 9, 0, .int (1), [], [])), (9, (.if_icmp .ne 8, 12, 17, .null, [], [])), (12, (.iload_n 1, 13, 0, .null, [], [])), (13, (.i2s, 14, 0, .null, [], [])), (14, (.goto 4, 17, 18, .null, [], [])), (17, (.iload_n 1, 18, 0, .null, [], [])), (18, (.ireturn, 19, 0, .null, [], []))]
noncomputable abbrev jX7_cast : List (Nat × sf_J (Int32 × sf_S)) := []
noncomputable def dX7_cast (x0 : Int32) (x1 : Int32) (σ : sf_S) : Option (Int32 × sf_S) :=
  if ¬ x0 = 0 then
    if ¬ x0 = (1 : Int32) then
      some (x1, σ)
    else
      some ((x1).toInt16.toInt32, σ)
  else
    some ((x1).toInt8.toInt32, σ)
noncomputable abbrev gX7_cast (av : List Value) (σ : sf_S) : Option (Int32 × sf_S) := match av with
  | [.int x0, .int x1] => dX7_cast x0 x1 σ
  | _ => none
set_option maxRecDepth 100000 in
set_option maxHeartbeats 4000000 in
theorem rX7_cast {Wt : Nat → sf_L → List Value → sf_S → Prop} {Post : (Int32 × sf_S) → Prop} (hs : sf_Snd Wt sf_layC sf_hI jX7_cast tX7_cast Post) (hm : sf_mono Wt) : ∀ av σ u, gX7_cast av σ = some u → Post u → (∀ ad, (lg_sl (av.map (sf_v ad))).length ≤ 2) ∧ Wt 0 (sf_ent 0 av) [] σ := by
  intro av σ u h hp
  unfold gX7_cast at h
  split at h
  · rename_i x0 x1
    refine ⟨fun ad => Nat.le_of_ble_eq_true rfl, ?_⟩
    exact sf_run_ok hs sf_sm_nil 18 0 _ _ σ u h hp
  · cases h
theorem kX7_cast (l : Launch) : sf_C l sf_layC yX7_cast cX7_cast 2 (some .int) (sf_rm 1 100) (fun av σ => (gX7_cast av σ).map sf_vI) :=
  sf_met (tab := tX7_cast) (J := jX7_cast) (fl := sf_fl7) (cl := sf_cl7) (by decide +kernel) ⟨rfl, rfl⟩ sf_RH_I (by decide +kernel) sf_fl7_ok sf_cl7_ok
    (sf_JO_nil)
    (fun Wt Post hs hm => rX7_cast hs hm)
-- ===== StreamFuser$Sheets.store(III)V =====
abbrev tX7_store : List (Nat × sf_E) := [(0, (.aload_n 0, 1, 0, .null, [], [])), (1, (.iload_n 1, 2, 0, .null, [], [])), (2, (.iload_n 2, 3, 0, .null, [], [])), (3, (.invokevirtual 21, 6, 0, .null, [], [])), (6, (.ifCond .ne 4, 9, 10, .null, [], [])), (9, (.return_, 10, 0, .null, [], [])), (10, (.aload_n 0, 11, 0, .null, [], [])), (11, (.getfield 18, 14, 0, .null, [], [(7, 2)])), (14, (.iload_n 1, 15, 0, .null, [], [])), (15, (.bipush 60, 17, 0, .int (60), [], [])), (17, (.imul, 18, 0, .null, [], [])), (18, (.iload_n 2, 19, 0, .null, [], [])), (19, (.iadd, 20, 0, .null, [], [])), (20, (.aload_n 0, 21, 0, .null, [], [])), (21, (.getfield 9, 24, 0, .null, [], [(7, 0)])), (24, (.iload_n 1, 25, 0, .null, [], [])), (25, (.iaload, 26, 0, .null, [], [])), (26, (.iload_n 3, 27, 0, .null, [], [])), (27, (.invokestatic 25, 30, 0, .null, [], [])), (30, (.iastore, 31, 0, .null, [], [])), (31, (.return_, 32, 0, .null, [], []))]
noncomputable abbrev jX7_store : List (Nat × sf_J sf_S) := [(3, sf_jI sf_layC [7] 3 gX7_hasElement), (27, sf_jI sf_layC [] 2 gX7_cast)]
noncomputable def dX7_store (x1 : Int32) (x2 : Int32) (x3 : Int32) (σ : sf_S) : Option sf_S :=
  (dX7_hasElement x1 x2 σ).bind fun u1 =>
  if ¬ u1.1 = 0 then
    if sf_in x1 4 then
      (dX7_cast (u1.2 16 x1.toNatClampNeg) x3 u1.2).bind fun u2 =>
      let v3 := ((x1 * (60 : Int32)) + x2)
      if sf_in v3 240 then
        let s4 := sf_up u2.2 18 v3.toNatClampNeg u2.1
        some s4
      else
        none
    else
      none
  else
    some u1.2
noncomputable abbrev gX7_store (av : List Value) (σ : sf_S) : Option sf_S := match av with
  | [.ref q, .int x1, .int x2, .int x3] => (match sf_rv [15] q with | true => dX7_store x1 x2 x3 σ | false => none)
  | _ => none
set_option maxRecDepth 100000 in
set_option maxHeartbeats 4000000 in
theorem rX7_store {Wt : Nat → sf_L → List Value → sf_S → Prop} {Post : sf_S → Prop} (hs : sf_Snd Wt sf_layC sf_hV jX7_store tX7_store Post) (hm : sf_mono Wt) : ∀ av σ u, gX7_store av σ = some u → Post u → (∀ ad, (lg_sl (av.map (sf_v ad))).length ≤ 4) ∧ Wt 0 (sf_ent 0 av) [] σ := by
  intro av σ u h hp
  unfold gX7_store at h
  split at h
  · rename_i q x1 x2 x3
    split at h
    · rename_i hq
      have hq : q = 15 := by simpa using sf_rv_mem hq
      subst hq
      refine ⟨fun ad => Nat.le_of_ble_eq_true rfl, ?_⟩
      exact sf_run_ok hs sf_sm_nil 26 0 _ _ σ u h hp
    · cases h
  · cases h
theorem kX7_store (l : Launch) : sf_C l sf_layC yX7_store cX7_store 4 none (sf_rm 2 122) (fun av σ => (gX7_store av σ).map sf_vV) :=
  sf_met (tab := tX7_store) (J := jX7_store) (fl := sf_fl7) (cl := sf_cl7) (by decide +kernel) ⟨rfl, rfl⟩ sf_RH_V (by decide +kernel) sf_fl7_ok sf_cl7_ok
    (sf_JO_cons (sf_je_V (n := 3) (cs := [7]) (tv := sf_vI) (kX7_hasElement l) mwX7_hasElement (by decide +kernel : decode cX7_store 3 = .ok (.invokevirtual 21, 3)) wt_1058 wt_1052 wt_74 (by decide +kernel) (by decide) (by decide) (List.forall_mem_cons.mpr ⟨⟨_, _, rfl⟩, fun _ h => absurd h List.not_mem_nil⟩) (sf_RM_of (by omega) (by omega))) (sf_JO_cons (sf_je_S (n := 2) (tv := sf_vI) (kX7_cast l) mwX7_cast (by decide +kernel : decode cX7_store 27 = .ok (.invokestatic 25, 3)) wt_1059 wt_1060 (by decide +kernel) (sf_RM_of (by omega) (by omega))) (sf_JO_nil)))
    (fun Wt Post hs hm => rX7_store hs hm)
-- ===== StreamFuser$Sheets.at(II)I =====
abbrev tX7_at : List (Nat × sf_E) := [(0, (.iload_n 1, 1, 0, .null, [], [])), (1, (.ifCond .lt 22, 4, 23, .null, [], [])), (4, (.iload_n 1, 5, 0, .null, [], [])), (5, (.iconst 4, 6, 0, .int (4), [], [])), (6, (.if_icmp .ge 17, 9, 23, .null, [], [])), (9, (.iload_n 2, 10, 0, .null, [], [])), (10, (.ifCond .lt 13, 13, 23, .null, [], [])), (13, (.iload_n 2, 14, 0, .null, [], [])), (14, (.aload_n 0, 15, 0, .null, [], [])), (15, (.getfield 15, 18, 0, .null, [], [(7, 1)])), (18, (.iload_n 1, 19, 0, .null, [], [])), (19, (.iaload, 20, 0, .null, [], [])), (20, (.if_icmp .lt 5, 23, 25, .null, [], [])), (23, (.iconst 0, 24, 0, .int (0), [], [])), (24, (.ireturn, 25, 0, .null, [], [])), (25, (.aload_n 0, 26, 0, .null, [], [])), (26, (.getfield 18, 29, 0, .null, [], [(7, 2)])), (29, (.iload_n 1, 30, 0, .null, [], [])), (30, (.bipush 60, 32, 0, .int (60), [], [])), (32, (.imul, 33, 0, .null, [], [])), (33, (.iload_n 2, 34, 0, .null, [], [])), (34, (.iadd, 35, 0, .null, [], [])), (35, (.iaload, 36, 0, .null, [], [])), (36, (.ireturn, 37, 0, .null, [], []))]
noncomputable abbrev jX7_at : List (Nat × sf_J (Int32 × sf_S)) := []
noncomputable def dX7_at (x1 : Int32) (x2 : Int32) (σ : sf_S) : Option (Int32 × sf_S) :=
  if x1 < 0 then
    some ((0 : Int32), σ)
  else
    if (4 : Int32) ≤ x1 then
      some ((0 : Int32), σ)
    else
      if x2 < 0 then
        some ((0 : Int32), σ)
      else
        if sf_in x1 4 then
          if x2 < (σ 17 x1.toNatClampNeg) then
            let v1 := ((x1 * (60 : Int32)) + x2)
            if sf_in v1 240 then
              some ((σ 18 v1.toNatClampNeg), σ)
            else
              none
          else
            some ((0 : Int32), σ)
        else
          none
noncomputable abbrev gX7_at (av : List Value) (σ : sf_S) : Option (Int32 × sf_S) := match av with
  | [.ref q, .int x1, .int x2] => (match sf_rv [15] q with | true => dX7_at x1 x2 σ | false => none)
  | _ => none
set_option maxRecDepth 100000 in
set_option maxHeartbeats 4000000 in
theorem rX7_at {Wt : Nat → sf_L → List Value → sf_S → Prop} {Post : (Int32 × sf_S) → Prop} (hs : sf_Snd Wt sf_layC sf_hI jX7_at tX7_at Post) (hm : sf_mono Wt) : ∀ av σ u, gX7_at av σ = some u → Post u → (∀ ad, (lg_sl (av.map (sf_v ad))).length ≤ 3) ∧ Wt 0 (sf_ent 0 av) [] σ := by
  intro av σ u h hp
  unfold gX7_at at h
  split at h
  · rename_i q x1 x2
    split at h
    · rename_i hq
      have hq : q = 15 := by simpa using sf_rv_mem hq
      subst hq
      refine ⟨fun ad => Nat.le_of_ble_eq_true rfl, ?_⟩
      exact sf_run_ok hs sf_sm_nil 29 0 _ _ σ u h hp
    · cases h
  · cases h
theorem kX7_at (l : Launch) : sf_C l sf_layC yX7_at cX7_at 3 (some .int) (sf_rm 1 100) (fun av σ => (gX7_at av σ).map sf_vI) :=
  sf_met (tab := tX7_at) (J := jX7_at) (fl := sf_fl7) (cl := sf_cl7) (by decide +kernel) ⟨rfl, rfl⟩ sf_RH_I (by decide +kernel) sf_fl7_ok sf_cl7_ok
    (sf_JO_nil)
    (fun Wt Post hs hm => rX7_at hs hm)
-- ===== StreamFuser.isSheet(I)Z =====
abbrev tX11_isSheet : List (Nat × sf_E) := [(0, (.iload_n 0, 1, 0, .null, [], [])), (1, (.ifCond .lt 12, 4, 13, .null, [], [])), (4, (.iload_n 0, 5, 0, .null, [], [])), (5, (.iconst 4, 6, 0, .int (4), [], [])), (6, (.if_icmp .ge 7, 9, 13, .null, [], [])), (9, (.iconst 1, 10, 0, .int (1), [], [])), (10, (.goto 4, 13, 14, .null, [], [])), (13, (.iconst 0, 14, 0, .int (0), [], [])), (14, (.ireturn, 15, 0, .null, [], []))]
noncomputable abbrev jX11_isSheet : List (Nat × sf_J (Int32 × sf_S)) := []
noncomputable def dX11_isSheet (x0 : Int32) (σ : sf_S) : Option (Int32 × sf_S) :=
  if x0 < 0 then
    some ((0 : Int32), σ)
  else
    if (4 : Int32) ≤ x0 then
      some ((0 : Int32), σ)
    else
      some ((1 : Int32), σ)
noncomputable abbrev gX11_isSheet (av : List Value) (σ : sf_S) : Option (Int32 × sf_S) := match av with
  | [.int x0] => dX11_isSheet x0 σ
  | _ => none
set_option maxRecDepth 100000 in
set_option maxHeartbeats 4000000 in
theorem rX11_isSheet {Wt : Nat → sf_L → List Value → sf_S → Prop} {Post : (Int32 × sf_S) → Prop} (hs : sf_Snd Wt sf_layC sf_hZ jX11_isSheet tX11_isSheet Post) (hm : sf_mono Wt) : ∀ av σ u, gX11_isSheet av σ = some u → Post u → (∀ ad, (lg_sl (av.map (sf_v ad))).length ≤ 1) ∧ Wt 0 (sf_ent 0 av) [] σ := by
  intro av σ u h hp
  unfold gX11_isSheet at h
  split at h
  · rename_i x0
    refine ⟨fun ad => Nat.le_of_ble_eq_true rfl, ?_⟩
    exact sf_run_ok hs sf_sm_nil 14 0 _ _ σ u h hp
  · cases h
theorem kX11_isSheet (l : Launch) : sf_C l sf_layC yX11_isSheet cX11_isSheet 1 (some .boolean) (sf_rm 1 100) (fun av σ => (gX11_isSheet av σ).map sf_vI) :=
  sf_met (tab := tX11_isSheet) (J := jX11_isSheet) (fl := sf_fl11) (cl := sf_cl11) (by decide +kernel) ⟨rfl, rfl⟩ sf_RH_Z (by decide +kernel) sf_fl11_ok sf_cl11_ok
    (sf_JO_nil)
    (fun Wt Post hs hm => rX11_isSheet hs hm)
-- ===== StreamFuser.isForm(I)Z =====
abbrev tX11_isForm : List (Nat × sf_E) := [(0, (.iload_n 0, 1, 0, .null, [], [])), (1, (.ifCond .lt 12, 4, 13, .null, [], [])), (4, (.iload_n 0, 5, 0, .null, [], [])), (5, (.iconst 3, 6, 0, .int (3), [], [])), (6, (.if_icmp .ge 7, 9, 13, .null, [], [])), (9, (.iconst 1, 10, 0, .int (1), [], [])), (10, (.goto 4, 13, 14, .null, [], [])), (13, (.iconst 0, 14, 0, .int (0), [], [])), (14, (.ireturn, 15, 0, .null, [], []))]
noncomputable abbrev jX11_isForm : List (Nat × sf_J (Int32 × sf_S)) := []
noncomputable def dX11_isForm (x0 : Int32) (σ : sf_S) : Option (Int32 × sf_S) :=
  if x0 < 0 then
    some ((0 : Int32), σ)
  else
    if (3 : Int32) ≤ x0 then
      some ((0 : Int32), σ)
    else
      some ((1 : Int32), σ)
noncomputable abbrev gX11_isForm (av : List Value) (σ : sf_S) : Option (Int32 × sf_S) := match av with
  | [.int x0] => dX11_isForm x0 σ
  | _ => none
set_option maxRecDepth 100000 in
set_option maxHeartbeats 4000000 in
theorem rX11_isForm {Wt : Nat → sf_L → List Value → sf_S → Prop} {Post : (Int32 × sf_S) → Prop} (hs : sf_Snd Wt sf_layC sf_hZ jX11_isForm tX11_isForm Post) (hm : sf_mono Wt) : ∀ av σ u, gX11_isForm av σ = some u → Post u → (∀ ad, (lg_sl (av.map (sf_v ad))).length ≤ 1) ∧ Wt 0 (sf_ent 0 av) [] σ := by
  intro av σ u h hp
  unfold gX11_isForm at h
  split at h
  · rename_i x0
    refine ⟨fun ad => Nat.le_of_ble_eq_true rfl, ?_⟩
    exact sf_run_ok hs sf_sm_nil 14 0 _ _ σ u h hp
  · cases h
theorem kX11_isForm (l : Launch) : sf_C l sf_layC yX11_isForm cX11_isForm 1 (some .boolean) (sf_rm 1 100) (fun av σ => (gX11_isForm av σ).map sf_vI) :=
  sf_met (tab := tX11_isForm) (J := jX11_isForm) (fl := sf_fl11) (cl := sf_cl11) (by decide +kernel) ⟨rfl, rfl⟩ sf_RH_Z (by decide +kernel) sf_fl11_ok sf_cl11_ok
    (sf_JO_nil)
    (fun Wt Post hs hm => rX11_isForm hs hm)
