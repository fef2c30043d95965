/-! ===== 30.X12 ===== -/
-- ===== StreamFuserModel.in(JJJ)Z =====
abbrev tX12_in : List (Nat × sf_E) := [(0, (.lload_n 0, 1, 0, .null, [], [])), (1, (.lload_n 2, 2, 0, .null, [], [])), (2, (.lcmp, 3, 0, .null, [], [])), (3, (.ifCond .lt 14, 6, 17, .null, [], [])), (6, (.lload_n 0, 7, 0, .null, [], [])), (7, (.lload 4, 9, 0, .null, [], [])), (9, (.lcmp, 10, 0, .null, [], [])), (10, (.ifCond .gt 7, 13, 17, .null, [], [])), (13, (.iconst 1, 14, 0, .int (1), [], [])), (14, (.goto 4, 17, 18, .null, [], [])), (17, (.iconst 0, 18, 0, .int (0), [], [])), (18, (.ireturn, 19, 0, .null, [], []))]
noncomputable abbrev jX12_in : List (Nat × sf_J (Int32 × sf_S)) := []
noncomputable def dX12_in (x0 : Int64) (x2 : Int64) (x4 : Int64) (σ : sf_S) : Option (Int32 × sf_S) :=
  if (lg_cmp x0 x2) < 0 then
    some ((0 : Int32), σ)
  else
    if 0 < (lg_cmp x0 x4) then
      some ((0 : Int32), σ)
    else
      some ((1 : Int32), σ)
noncomputable abbrev gX12_in (av : List Value) (σ : sf_S) : Option (Int32 × sf_S) := match av with
  | [.long x0, .long x2, .long x4] => dX12_in x0 x2 x4 σ
  | _ => none
set_option maxRecDepth 100000 in
set_option maxHeartbeats 4000000 in
theorem rX12_in {Wt : Nat → sf_L → List Value → sf_S → Prop} {Post : (Int32 × sf_S) → Prop} (hs : sf_Snd Wt sf_layM sf_hZ jX12_in tX12_in Post) (hm : sf_mono Wt) : ∀ av σ u, gX12_in av σ = some u → Post u → (∀ ad, (lg_sl (av.map (sf_v ad))).length ≤ 6) ∧ Wt 0 (sf_ent 0 av) [] σ := by
  intro av σ u h hp
  unfold gX12_in at h
  split at h
  · rename_i x0 x2 x4
    refine ⟨fun ad => Nat.le_of_ble_eq_true rfl, ?_⟩
    exact sf_run_ok hs sf_sm_nil 17 0 _ _ σ u h hp
  · cases h
theorem kX12_in (l : Launch) : sf_C l sf_layM yX12_in cX12_in 6 (some .boolean) (sf_rm 1 100) (fun av σ => (gX12_in av σ).map sf_vI) :=
  sf_met (tab := tX12_in) (J := jX12_in) (fl := sf_fl12) (cl := sf_cl12) (by decide +kernel) ⟨rfl, rfl⟩ sf_RH_Z (by decide +kernel) sf_fl12_ok sf_cl12_ok
    (sf_JO_nil)
    (fun Wt Post hs hm => rX12_in hs hm)
-- ===== StreamFuserModel.no(I)J =====
abbrev tX12_no : List (Nat × sf_E) := [(0, (.ldc2_w 124, 3, 0, .long (-9223372036854775808), [], [])), (3, (.iload_n 0, 4, 0, .null, [], [])), (4, (.i2l, 5, 0, .null, [], [])), (5, (.lsub, 6, 0, .null, [], [])), (6, (.lreturn, 7, 0, .null, [], []))]
noncomputable abbrev jX12_no : List (Nat × sf_J (Int64 × sf_S)) := []
noncomputable def dX12_no (x0 : Int32) (σ : sf_S) : Option (Int64 × sf_S) :=
  some (((-9223372036854775808 : Int64) - x0.toInt64), σ)
noncomputable abbrev gX12_no (av : List Value) (σ : sf_S) : Option (Int64 × sf_S) := match av with
  | [.int x0] => dX12_no x0 σ
  | _ => none
set_option maxRecDepth 100000 in
set_option maxHeartbeats 4000000 in
theorem rX12_no {Wt : Nat → sf_L → List Value → sf_S → Prop} {Post : (Int64 × sf_S) → Prop} (hs : sf_Snd Wt sf_layM sf_hL jX12_no tX12_no Post) (hm : sf_mono Wt) : ∀ av σ u, gX12_no av σ = some u → Post u → (∀ ad, (lg_sl (av.map (sf_v ad))).length ≤ 1) ∧ Wt 0 (sf_ent 0 av) [] σ := by
  intro av σ u h hp
  unfold gX12_no at h
  split at h
  · rename_i x0
    refine ⟨fun ad => Nat.le_of_ble_eq_true rfl, ?_⟩
    exact sf_run_ok hs sf_sm_nil 10 0 _ _ σ u h hp
  · cases h
theorem kX12_no (l : Launch) : sf_C l sf_layM yX12_no cX12_no 1 (some .long) (sf_rm 1 100) (fun av σ => (gX12_no av σ).map sf_vL) :=
  sf_met (tab := tX12_no) (J := jX12_no) (fl := sf_fl12) (cl := sf_cl12) (by decide +kernel) ⟨rfl, rfl⟩ sf_RH_L (by decide +kernel) sf_fl12_ok sf_cl12_ok
    (sf_JO_nil)
    (fun Wt Post hs hm => rX12_no hs hm)
-- ===== StreamFuserModel.lesser(II)I =====
abbrev tX12_lesser : List (Nat × sf_E) := [(0, (.iload_n 0, 1, 0, .null, [], [])), (1, (.iload_n 1, 2, 0, .null, [], [])), (2, (.if_icmp .ge 7, 5, 9, .null, [], [])), (5, (.iload_n 0, 6, 0, .null, [], [])), (6, (.goto 4, 9, 10, .null, [], [])), (9, (.iload_n 1, 10, 0, .null, [], [])), (10, (.ireturn, 11, 0, .null, [], []))]
noncomputable abbrev jX12_lesser : List (Nat × sf_J (Int32 × sf_S)) := []
noncomputable def dX12_lesser (x0 : Int32) (x1 : Int32) (σ : sf_S) : Option (Int32 × sf_S) :=
  if x1 ≤ x0 then
    some (x1, σ)
  else
    some (x0, σ)
noncomputable abbrev gX12_lesser (av : List Value) (σ : sf_S) : Option (Int32 × sf_S) := match av with
  | [.int x0, .int x1] => dX12_lesser x0 x1 σ
  | _ => none
set_option maxRecDepth 100000 in
set_option maxHeartbeats 4000000 in
theorem rX12_lesser {Wt : Nat → sf_L → List Value → sf_S → Prop} {Post : (Int32 × sf_S) → Prop} (hs : sf_Snd Wt sf_layM sf_hI jX12_lesser tX12_lesser Post) (hm : sf_mono Wt) : ∀ av σ u, gX12_lesser av σ = some u → Post u → (∀ ad, (lg_sl (av.map (sf_v ad))).length ≤ 2) ∧ Wt 0 (sf_ent 0 av) [] σ := by
  intro av σ u h hp
  unfold gX12_lesser at h
  split at h
  · rename_i x0 x1
    refine ⟨fun ad => Nat.le_of_ble_eq_true rfl, ?_⟩
    exact sf_run_ok hs sf_sm_nil 12 0 _ _ σ u h hp
  · cases h
theorem kX12_lesser (l : Launch) : sf_C l sf_layM yX12_lesser cX12_lesser 2 (some .int) (sf_rm 1 100) (fun av σ => (gX12_lesser av σ).map sf_vI) :=
  sf_met (tab := tX12_lesser) (J := jX12_lesser) (fl := sf_fl12) (cl := sf_cl12) (by decide +kernel) ⟨rfl, rfl⟩ sf_RH_I (by decide +kernel) sf_fl12_ok sf_cl12_ok
    (sf_JO_nil)
    (fun Wt Post hs hm => rX12_lesser hs hm)
-- ===== StreamFuserModel.greater(II)I =====
abbrev tX12_greater : List (Nat × sf_E) := [(0, (.iload_n 0, 1, 0, .null, [], [])), (1, (.iload_n 1, 2, 0, .null, [], [])), (2, (.if_icmp .le 7, 5, 9, .null, [], [])), (5, (.iload_n 0, 6, 0, .null, [], [])), (6, (.goto 4, 9, 10, .null, [], [])), (9, (.iload_n 1, 10, 0, .null, [], [])), (10, (.ireturn, 11, 0, .null, [], []))]
noncomputable abbrev jX12_greater : List (Nat × sf_J (Int32 × sf_S)) := []
noncomputable def dX12_greater (x0 : Int32) (x1 : Int32) (σ : sf_S) : Option (Int32 × sf_S) :=
  if x0 ≤ x1 then
    some (x1, σ)
  else
    some (x0, σ)
noncomputable abbrev gX12_greater (av : List Value) (σ : sf_S) : Option (Int32 × sf_S) := match av with
  | [.int x0, .int x1] => dX12_greater x0 x1 σ
  | _ => none
set_option maxRecDepth 100000 in
set_option maxHeartbeats 4000000 in
theorem rX12_greater {Wt : Nat → sf_L → List Value → sf_S → Prop} {Post : (Int32 × sf_S) → Prop} (hs : sf_Snd Wt sf_layM sf_hI jX12_greater tX12_greater Post) (hm : sf_mono Wt) : ∀ av σ u, gX12_greater av σ = some u → Post u → (∀ ad, (lg_sl (av.map (sf_v ad))).length ≤ 2) ∧ Wt 0 (sf_ent 0 av) [] σ := by
  intro av σ u h hp
  unfold gX12_greater at h
  split at h
  · rename_i x0 x1
    refine ⟨fun ad => Nat.le_of_ble_eq_true rfl, ?_⟩
    exact sf_run_ok hs sf_sm_nil 12 0 _ _ σ u h hp
  · cases h
theorem kX12_greater (l : Launch) : sf_C l sf_layM yX12_greater cX12_greater 2 (some .int) (sf_rm 1 100) (fun av σ => (gX12_greater av σ).map sf_vI) :=
  sf_met (tab := tX12_greater) (J := jX12_greater) (fl := sf_fl12) (cl := sf_cl12) (by decide +kernel) ⟨rfl, rfl⟩ sf_RH_I (by decide +kernel) sf_fl12_ok sf_cl12_ok
    (sf_JO_nil)
    (fun Wt Post hs hm => rX12_greater hs hm)
-- ===== StreamFuserModel.finds(I)I =====
abbrev tX12_finds : List (Nat × sf_E) := [(0, (.aload_n 0, 1, 0, .null, [], [])), (1, (.iload_n 1, 2, 0, .null, [], [])), (2, (.putfield 126, 5, 0, .null, [], [(10, 4)])), (5, (.bipush (-10), 7, 0, .int (-10), [], [])), (7, (.iload_n 1, 8, 0, .null, [], [])), (8, (.isub, 9, 0, .null, [], [])), (9, (.ireturn, 10, 0, .null, [], []))]
noncomputable abbrev jX12_finds : List (Nat × sf_J (Int32 × sf_S)) := []
noncomputable def dX12_finds (x1 : Int32) (σ : sf_S) : Option (Int32 × sf_S) :=
  let s1 := sf_up σ 0 4 x1
  some (((-10 : Int32) - x1), s1)
noncomputable abbrev gX12_finds (av : List Value) (σ : sf_S) : Option (Int32 × sf_S) := match av with
  | [.ref q, .int x1] => (match sf_rv [0] q with | true => dX12_finds x1 σ | false => none)
  | _ => none
set_option maxRecDepth 100000 in
set_option maxHeartbeats 4000000 in
theorem rX12_finds {Wt : Nat → sf_L → List Value → sf_S → Prop} {Post : (Int32 × sf_S) → Prop} (hs : sf_Snd Wt sf_layM sf_hI jX12_finds tX12_finds Post) (hm : sf_mono Wt) : ∀ av σ u, gX12_finds av σ = some u → Post u → (∀ ad, (lg_sl (av.map (sf_v ad))).length ≤ 2) ∧ Wt 0 (sf_ent 0 av) [] σ := by
  intro av σ u h hp
  unfold gX12_finds at h
  split at h
  · rename_i q x1
    split at h
    · rename_i hq
      have hq : q = 0 := by simpa using sf_rv_mem hq
      subst hq
      refine ⟨fun ad => Nat.le_of_ble_eq_true rfl, ?_⟩
      exact sf_run_ok hs sf_sm_nil 12 0 _ _ σ u h hp
    · cases h
  · cases h
theorem kX12_finds (l : Launch) : sf_C l sf_layM yX12_finds cX12_finds 2 (some .int) (sf_rm 1 100) (fun av σ => (gX12_finds av σ).map sf_vI) :=
  sf_met (tab := tX12_finds) (J := jX12_finds) (fl := sf_fl12) (cl := sf_cl12) (by decide +kernel) ⟨rfl, rfl⟩ sf_RH_I (by decide +kernel) sf_fl12_ok sf_cl12_ok
    (sf_JO_nil)
    (fun Wt Post hs hm => rX12_finds hs hm)
-- ===== StreamFuserModel.isSheet(I)Z =====
abbrev tX12_isSheet : List (Nat × sf_E) := [(0, (.iload_n 0, 1, 0, .null, [], [])), (1, (.i2l, 2, 0, .null, [], [])), (2, (.lconst 0, 3, 0, .long 0, [], [])), (3, (.ldc2_w 130, 6, 0, .long (3), [], [])), (6, (.invokestatic 132, 9, 0, .null, [], [])), (9, (.ireturn, 10, 0, .null, [], []))]
noncomputable abbrev jX12_isSheet : List (Nat × sf_J (Int32 × sf_S)) := [(6, sf_jI sf_layM [] 3 gX12_in)]
noncomputable def dX12_isSheet (x0 : Int32) (σ : sf_S) : Option (Int32 × sf_S) :=
  (dX12_in x0.toInt64 (0 : Int64) (3 : Int64) σ).bind fun u1 =>
  if sf_01 u1.1 then some (u1.1, u1.2) else none
noncomputable abbrev gX12_isSheet (av : List Value) (σ : sf_S) : Option (Int32 × sf_S) := match av with
  | [.int x0] => dX12_isSheet x0 σ
  | _ => none
set_option maxRecDepth 100000 in
set_option maxHeartbeats 4000000 in
theorem rX12_isSheet {Wt : Nat → sf_L → List Value → sf_S → Prop} {Post : (Int32 × sf_S) → Prop} (hs : sf_Snd Wt sf_layM sf_hZ jX12_isSheet tX12_isSheet Post) (hm : sf_mono Wt) : ∀ av σ u, gX12_isSheet av σ = some u → Post u → (∀ ad, (lg_sl (av.map (sf_v ad))).length ≤ 1) ∧ Wt 0 (sf_ent 0 av) [] σ := by
  intro av σ u h hp
  unfold gX12_isSheet at h
  split at h
  · rename_i x0
    refine ⟨fun ad => Nat.le_of_ble_eq_true rfl, ?_⟩
    exact sf_run_ok hs sf_sm_nil 11 0 _ _ σ u h hp
  · cases h
theorem kX12_isSheet (l : Launch) : sf_C l sf_layM yX12_isSheet cX12_isSheet 1 (some .boolean) (sf_rm 2 125) (fun av σ => (gX12_isSheet av σ).map sf_vI) :=
  sf_met (tab := tX12_isSheet) (J := jX12_isSheet) (fl := sf_fl12) (cl := sf_cl12) (by decide +kernel) ⟨rfl, rfl⟩ sf_RH_Z (by decide +kernel) sf_fl12_ok sf_cl12_ok
    (sf_JO_cons (sf_je_S (n := 3) (tv := sf_vI) (kX12_in l) mwX12_in (by decide +kernel : decode cX12_isSheet 6 = .ok (.invokestatic 132, 3)) wt_1378 wt_1379 (by decide +kernel) (sf_RM_of (by omega) (by omega))) (sf_JO_nil))
    (fun Wt Post hs hm => rX12_isSheet hs hm)
-- ===== StreamFuserModel.sheet(III)I =====
abbrev tX12_sheet : List (Nat × sf_E) := [(0, (.iload_n 1, 1, 0, .null, [], [])), (1, (.invokestatic 136, 4, 0, .null, [], [])), (4, (.ifCond .eq 21, 7, 25, .null, [], [])), (7, (.iload_n 2, 8, 0, .null, [], [])), (8, (.i2l, 9, 0, .null, [], [])), (9, (.lconst 0, 10, 0, .long 0, [], [])), (10, (.ldc2_w 140, 13, 0, .long (2), [], [])), (13, (.invokestatic 132, 16, 0, .null, [], [])), (16, (.ifCond .eq 9, 19, 25, .null, [], [])), (19, (.iload_n 3, 20, 0, .null, [], [])), (20, (.bipush 60, 22, 0, .int (60), [], [])), (22, (.if_icmp .le 6, 25, 28, .null, [], [])), (25, (.bipush (-2), 27, 0, .int (-2), [], [])), (27, (.ireturn, 28, 0, .null, [], [])), (28, (.iload_n 3, 29, 0, .null, [], [])), (29, (.ifCond .ge 9, 32, 38, .null, [], [])), (32, (.aload_n 0, 33, 0, .null, [], [])), (33, (.iconst 5, 34, 0, .int (5), [], [])), (34, (.invokevirtual 142, 37, 0, .null, [], [])), (37, (.ireturn, 38, 0, .null, [], [])), (38, (.aload_n 0, 39, 0, .null, [], [])), (39, (.getfield 7, 42, 0, .null, [], [(10, 0)])), (42, (.iload_n 1, 43, 0, .null, [], [])), (43, (.iload_n 2, 44, 0, .null, [], [])), (44, (.iastore, 45, 0, .null, [], [])), (45, (.aload_n 0, 46, 0, .null, [], [])), (46, (.getfield 13, 49, 0, .null, [], [(10, 1)])), (49, (.iload_n 1, 50, 0, .null, [], [])), (50, (.iload_n 3, 51, 0, .null, [], [])), (51, (.iastore, 52, 0, .null, [], [])), (52, (.iconst 0, 53, 0, .int (0), [], [])), (53, (.istore 4, 55, 0, .null, [], [])), (55, (.iload 4, 57, 0, .null, [], [])), (57, (.iload_n 3, 58, 0, .null, [], [])), (58, (.if_icmp .ge 22, 61, 80, .null, [], [])), (61, (.aload_n 0, 62, 0, .null, [], [])), (62, (.getfield 16, 65, 0, .null, [], [(10, 2)])), (65, (.bipush 60, 67, 0, .int (60), [], [])), (67, (.iload_n 1, 68, 0, .null, [], [])), (68, (.imul, 69, 0, .null, [], [])), (69, (.iload 4, 71, 0, .null, [], [])), (71, (.iadd, 72, 0, .null, [], [])), (72, (.iconst 0, 73, 0, .int (0), [], [])), (73, (.iastore, 74, 0, .null, [], [])), (74, (.iinc 4 1, 77, 0, .int (1), [], [])), (77, (.goto (-22), 80, 55, .null, [], [])), (80, (.iload_n 3, 81, 0, .null, [], [])), (81, (.ireturn, 82, 0, .null, [], []))]
noncomputable abbrev jX12_sheet : List (Nat × sf_J (Int32 × sf_S)) := [(1, sf_jI sf_layM [] 1 gX12_isSheet), (13, sf_jI sf_layM [] 3 gX12_in), (34, sf_jI sf_layM [10] 2 gX12_finds)]
abbrev wX12_sheet_55 {ρ : Type} (k : Int32 → Int32 → Int32 → sf_S → Option ρ) : sf_M ρ := fun L st σ => sf_lda L 0 fun a0 => sf_eq a0 0 (sf_ldi L 1 fun x1 => sf_ldi L 3 fun x3 => sf_ldi L 4 fun x4 => sf_nil st (k x1 x3 x4 σ))
theorem wX12_sheet_55_ok {ρ : Type} {Wt : Nat → sf_L → List Value → sf_S → Prop} {Post : ρ → Prop} (hm : sf_mono Wt) {k : Int32 → Int32 → Int32 → sf_S → Option ρ} (h : ∀ (x1 : Int32) (x3 : Int32) (x4 : Int32) (σ : sf_S) (u : ρ), k x1 x3 x4 σ = some u → Post u → Wt 55 [(0, some (.ref 0)), (1, some (.int x1)), (3, some (.int x3)), (4, some (.int x4))] [] σ) : sf_CK Wt Post 55 (wX12_sheet_55 k) := by
  intro L st σ u hf hp
  unfold wX12_sheet_55 at hf
  have hf0 := hf
  obtain ⟨a0, e0, hf1⟩ := sf_lda_inv hf0
  obtain ⟨rfl, hf2⟩ := sf_eq_inv hf1
  obtain ⟨x1, e1, hf3⟩ := sf_ldi_inv hf2
  obtain ⟨x3, e3, hf4⟩ := sf_ldi_inv hf3
  obtain ⟨x4, e4, hf5⟩ := sf_ldi_inv hf4
  obtain ⟨rfl, hz⟩ := sf_nil_inv hf5
  exact hm _ [(0, some (.ref _)), (1, some (.int x1)), (3, some (.int x3)), (4, some (.int x4))] _ _ _ (sf_le_ok (And.intro e0 (And.intro e1 (And.intro e3 (And.intro e4 trivial))))) (h _ _ _ _ _ hz hp)
noncomputable def dX12_sheet_55 : Nat → Int32 → Int32 → Int32 → sf_S → Option (Int32 × sf_S)
  | 0 => fun _ _ _ _ => none
  | n + 1 => fun x1 x3 x4 σ =>
    if x3 ≤ x4 then
      some (x3, σ)
    else
      let v1 := (((60 : Int32) * x1) + x4)
      if sf_in v1 240 then
        let s2 := sf_up σ 3 v1.toNatClampNeg (0 : Int32)
        dX12_sheet_55 n x1 x3 (x4 + (1 : Int32)) s2
      else
        none
set_option maxRecDepth 100000 in
set_option maxHeartbeats 4000000 in
theorem rX12_sheet_55 {Wt : Nat → sf_L → List Value → sf_S → Prop} {Post : (Int32 × sf_S) → Prop} (hs : sf_Snd Wt sf_layM sf_hI jX12_sheet tX12_sheet Post) (hm : sf_mono Wt) : ∀ n : Nat, sf_CK Wt Post 55 (wX12_sheet_55 (dX12_sheet_55 n)) := by
  intro n
  induction n with
  | zero => exact wX12_sheet_55_ok hm (fun x1 x3 x4 σ u h _ => by simp [dX12_sheet_55] at h)
  | succ n ih =>
    refine wX12_sheet_55_ok hm ?_
    intro x1 x3 x4 σ u h hp
    exact sf_run_ok hs (sf_sm_cons ih sf_sm_nil) 53 55 _ _ σ u h hp
noncomputable def dX12_sheet (x1 : Int32) (x2 : Int32) (x3 : Int32) (σ : sf_S) : Option (Int32 × sf_S) :=
  (dX12_isSheet x1 σ).bind fun u1 =>
  if u1.1 = 0 then
    some ((-2 : Int32), u1.2)
  else
    (dX12_in x2.toInt64 (0 : Int64) (2 : Int64) u1.2).bind fun u2 =>
    if u2.1 = 0 then
      some ((-2 : Int32), u2.2)
    else
      if x3 ≤ (60 : Int32) then
        if 0 ≤ x3 then
          if sf_in x1 4 then
            let s3 := sf_up u2.2 1 x1.toNatClampNeg x2
            if sf_in x1 4 then
              let s4 := sf_up s3 2 x1.toNatClampNeg x3
              dX12_sheet_55 sf_F x1 x3 (0 : Int32) s4
            else
              none
          else
            none
        else
          (dX12_finds (5 : Int32) u2.2).bind fun u5 =>
          some (u5.1, u5.2)
      else
        some ((-2 : Int32), u2.2)
noncomputable abbrev gX12_sheet (av : List Value) (σ : sf_S) : Option (Int32 × sf_S) := match av with
  | [.ref q, .int x1, .int x2, .int x3] => (match sf_rv [0] q with | true => dX12_sheet x1 x2 x3 σ | false => none)
  | _ => none
set_option maxRecDepth 100000 in
set_option maxHeartbeats 4000000 in
theorem rX12_sheet {Wt : Nat → sf_L → List Value → sf_S → Prop} {Post : (Int32 × sf_S) → Prop} (hs : sf_Snd Wt sf_layM sf_hI jX12_sheet tX12_sheet Post) (hm : sf_mono Wt) : ∀ av σ u, gX12_sheet av σ = some u → Post u → (∀ ad, (lg_sl (av.map (sf_v ad))).length ≤ 5) ∧ Wt 0 (sf_ent 0 av) [] σ := by
  intro av σ u h hp
  unfold gX12_sheet at h
  split at h
  · rename_i q x1 x2 x3
    split at h
    · rename_i hq
      have hq : q = 0 := by simpa using sf_rv_mem hq
      subst hq
      refine ⟨fun ad => Nat.le_of_ble_eq_true rfl, ?_⟩
      exact sf_run_ok hs (sf_sm_cons (rX12_sheet_55 hs hm sf_F) sf_sm_nil) 53 0 _ _ σ u h hp
    · cases h
  · cases h
theorem kX12_sheet (l : Launch) : sf_C l sf_layM yX12_sheet cX12_sheet 5 (some .int) (sf_rm 3 145) (fun av σ => (gX12_sheet av σ).map sf_vI) :=
  sf_met (tab := tX12_sheet) (J := jX12_sheet) (fl := sf_fl12) (cl := sf_cl12) (by decide +kernel) ⟨rfl, rfl⟩ sf_RH_I (by decide +kernel) sf_fl12_ok sf_cl12_ok
    (sf_JO_cons (sf_je_S (n := 1) (tv := sf_vI) (kX12_isSheet l) mwX12_isSheet (by decide +kernel : decode cX12_sheet 1 = .ok (.invokestatic 136, 3)) wt_1374 wt_1375 (by decide +kernel) (sf_RM_of (by omega) (by omega))) (sf_JO_cons (sf_je_S (n := 3) (tv := sf_vI) (kX12_in l) mwX12_in (by decide +kernel : decode cX12_sheet 13 = .ok (.invokestatic 132, 3)) wt_1378 wt_1379 (by decide +kernel) (sf_RM_of (by omega) (by omega))) (sf_JO_cons (sf_je_V (n := 2) (cs := [10]) (tv := sf_vI) (kX12_finds l) mwX12_finds (by decide +kernel : decode cX12_sheet 34 = .ok (.invokevirtual 142, 3)) wt_1382 wt_1384 wt_83 (by decide +kernel) (by decide) (by decide) (List.forall_mem_cons.mpr ⟨⟨_, _, rfl⟩, fun _ h => absurd h List.not_mem_nil⟩) (sf_RM_of (by omega) (by omega))) (sf_JO_nil))))
    (fun Wt Post hs hm => rX12_sheet hs hm)
-- ===== StreamFuserModel.lose(I)I =====
abbrev tX12_lose : List (Nat × sf_E) := [(0, (.iload_n 1, 1, 0, .null, [], [])), (1, (.invokestatic 136, 4, 0, .null, [], [])), (4, (.ifCond .ne 6, 7, 10, .null, [], [])), (7, (.bipush (-2), 9, 0, .int (-2), [], [])), (9, (.ireturn, 10, 0, .null, [], [])), (10, (.aload_n 0, 11, 0, .null, [], [])), (11, (.getfield 7, 14, 0, .null, [], [(10, 0)])), (14, (.iload_n 1, 15, 0, .null, [], [])), (15, (.iaload, 16, 0, .null, [], [])), (16, (.ifCond .ge 9, 19, 25, .null, [], [])), (19, (.aload_n 0, 20, 0, .null, [], [])), (20, (.iconst 1, 21, 0, .int (1), [], [])), (21, (.invokevirtual 142, 24, 0, .null, [], [])), (24, (.ireturn, 25, 0, .null, [], [])), (25, (.aload_n 0, 26, 0, .null, [], [])), (26, (.getfield 7, 29, 0, .null, [], [(10, 0)])), (29, (.iload_n 1, 30, 0, .null, [], [])), (30, (.iconst (-1), 31, 0, .int (-1), [], [])), (31, (.iastore, 32, 0, .null, [], [])), (32, (.aload_n 0, 33, 0, .null, [], [])), (33, (.getfield 13, 36, 0, .null, [], [(10, 1)])), (36, (.iload_n 1, 37, 0, .null, [], [])), (37, (.iaload, 38, 0, .null, [], [])), (38, (.ireturn, 39, 0, .null, [], []))]
noncomputable abbrev jX12_lose : List (Nat × sf_J (Int32 × sf_S)) := [(1, sf_jI sf_layM [] 1 gX12_isSheet), (21, sf_jI sf_layM [10] 2 gX12_finds)]
noncomputable def dX12_lose (x1 : Int32) (σ : sf_S) : Option (Int32 × sf_S) :=
  (dX12_isSheet x1 σ).bind fun u1 =>
  if ¬ u1.1 = 0 then
    if sf_in x1 4 then
      if 0 ≤ (u1.2 1 x1.toNatClampNeg) then
        if sf_in x1 4 then
          let s2 := sf_up u1.2 1 x1.toNatClampNeg (-1 : Int32)
          if sf_in x1 4 then
            some ((s2 2 x1.toNatClampNeg), s2)
          else
            none
        else
          none
      else
        (dX12_finds (1 : Int32) u1.2).bind fun u3 =>
        some (u3.1, u3.2)
    else
      none
  else
    some ((-2 : Int32), u1.2)
noncomputable abbrev gX12_lose (av : List Value) (σ : sf_S) : Option (Int32 × sf_S) := match av with
  | [.ref q, .int x1] => (match sf_rv [0] q with | true => dX12_lose x1 σ | false => none)
  | _ => none
set_option maxRecDepth 100000 in
set_option maxHeartbeats 4000000 in
theorem rX12_lose {Wt : Nat → sf_L → List Value → sf_S → Prop} {Post : (Int32 × sf_S) → Prop} (hs : sf_Snd Wt sf_layM sf_hI jX12_lose tX12_lose Post) (hm : sf_mono Wt) : ∀ av σ u, gX12_lose av σ = some u → Post u → (∀ ad, (lg_sl (av.map (sf_v ad))).length ≤ 2) ∧ Wt 0 (sf_ent 0 av) [] σ := by
  intro av σ u h hp
  unfold gX12_lose at h
  split at h
  · rename_i q x1
    split at h
    · rename_i hq
      have hq : q = 0 := by simpa using sf_rv_mem hq
      subst hq
      refine ⟨fun ad => Nat.le_of_ble_eq_true rfl, ?_⟩
      exact sf_run_ok hs sf_sm_nil 29 0 _ _ σ u h hp
    · cases h
  · cases h
theorem kX12_lose (l : Launch) : sf_C l sf_layM yX12_lose cX12_lose 2 (some .int) (sf_rm 3 145) (fun av σ => (gX12_lose av σ).map sf_vI) :=
  sf_met (tab := tX12_lose) (J := jX12_lose) (fl := sf_fl12) (cl := sf_cl12) (by decide +kernel) ⟨rfl, rfl⟩ sf_RH_I (by decide +kernel) sf_fl12_ok sf_cl12_ok
    (sf_JO_cons (sf_je_S (n := 1) (tv := sf_vI) (kX12_isSheet l) mwX12_isSheet (by decide +kernel : decode cX12_lose 1 = .ok (.invokestatic 136, 3)) wt_1374 wt_1375 (by decide +kernel) (sf_RM_of (by omega) (by omega))) (sf_JO_cons (sf_je_V (n := 2) (cs := [10]) (tv := sf_vI) (kX12_finds l) mwX12_finds (by decide +kernel : decode cX12_lose 21 = .ok (.invokevirtual 142, 3)) wt_1382 wt_1384 wt_83 (by decide +kernel) (by decide) (by decide) (List.forall_mem_cons.mpr ⟨⟨_, _, rfl⟩, fun _ h => absurd h List.not_mem_nil⟩) (sf_RM_of (by omega) (by omega))) (sf_JO_nil)))
    (fun Wt Post hs hm => rX12_lose hs hm)
-- ===== StreamFuserModel.lacks(III)I =====
abbrev tX12_lacks : List (Nat × sf_E) := [(0, (.aload_n 0, 1, 0, .null, [], [])), (1, (.getfield 7, 4, 0, .null, [], [(10, 0)])), (4, (.iload_n 1, 5, 0, .null, [], [])), (5, (.iaload, 6, 0, .null, [], [])), (6, (.ifCond .ge 9, 9, 15, .null, [], [])), (9, (.aload_n 0, 10, 0, .null, [], [])), (10, (.iconst 1, 11, 0, .int (1), [], [])), (11, (.invokevirtual 142, 14, 0, .null, [], [])), (14, (.ireturn, 15, 0, .null, [], [])), (15, (.aload_n 0, 16, 0, .null, [], [])), (16, (.getfield 7, 19, 0, .null, [], [(10, 0)])), (19, (.iload_n 1, 20, 0, .null, [], [])), (20, (.iaload, 21, 0, .null, [], [])), (21, (.iload_n 2, 22, 0, .null, [], [])), (22, (.if_icmp .eq 9, 25, 31, .null, [], [])), (25, (.aload_n 0, 26, 0, .null, [], [])), (26, (.iconst 3, 27, 0, .int (3), [], [])), (27, (.invokevirtual 142, 30, 0, .null, [], [])), (30, (.ireturn, 31, 0, .null, [], [])), (31, (.iload_n 3, 32, 0, .null, [], [])), (32, (.i2l, 33, 0, .null, [], [])), (33, (.lconst 0, 34, 0, .long 0, [], [])), (34, (.aload_n 0, 35, 0, .null, [], [])), (35, (.getfield 13, 38, 0, .null, [], [(10, 1)])), (38, (.iload_n 1, 39, 0, .null, [], [])), (39, (.iaload, 40, 0, .null, [], [])), (40, (.iconst 1, 41, 0, .int (1), [], [])), (41, (.isub, 42, 0, .null, [], [])), (42, (.i2l, 43, 0, .null, [], [])), (43, (.invokestatic 132, 46, 0, .null, [], [])), (46, (.ifCond .eq 7, 49, 53, .null, [], [])), (49, (.iconst 0, 50, 0, .int (0), [], [])), (50, (.goto 8, 53, 58, .null, [], [])), (53, (.aload_n 0, 54, 0, .null, [], [])), (54, (.iconst 2, 55, 0, .int (2), [], [])), (55, (.invokevirtual 142, 58, 0, .null, [], [])), (58, (.ireturn, 59, 0, .null, [], []))]
noncomputable abbrev jX12_lacks : List (Nat × sf_J (Int32 × sf_S)) := [(11, sf_jI sf_layM [10] 2 gX12_finds), (27, sf_jI sf_layM [10] 2 gX12_finds), (43, sf_jI sf_layM [] 3 gX12_in), (55, sf_jI sf_layM [10] 2 gX12_finds)]
noncomputable def dX12_lacks (x1 : Int32) (x2 : Int32) (x3 : Int32) (σ : sf_S) : Option (Int32 × sf_S) :=
  if sf_in x1 4 then
    if 0 ≤ (σ 1 x1.toNatClampNeg) then
      if sf_in x1 4 then
        if (σ 1 x1.toNatClampNeg) = x2 then
          if sf_in x1 4 then
            (dX12_in x3.toInt64 (0 : Int64) (((σ 2 x1.toNatClampNeg) - (1 : Int32))).toInt64 σ).bind fun u1 =>
            if u1.1 = 0 then
              (dX12_finds (2 : Int32) u1.2).bind fun u2 =>
              some (u2.1, u2.2)
            else
              some ((0 : Int32), u1.2)
          else
            none
        else
          (dX12_finds (3 : Int32) σ).bind fun u3 =>
          some (u3.1, u3.2)
      else
        none
    else
      (dX12_finds (1 : Int32) σ).bind fun u4 =>
      some (u4.1, u4.2)
  else
    none
noncomputable abbrev gX12_lacks (av : List Value) (σ : sf_S) : Option (Int32 × sf_S) := match av with
  | [.ref q, .int x1, .int x2, .int x3] => (match sf_rv [0] q with | true => dX12_lacks x1 x2 x3 σ | false => none)
  | _ => none
set_option maxRecDepth 100000 in
set_option maxHeartbeats 4000000 in
theorem rX12_lacks {Wt : Nat → sf_L → List Value → sf_S → Prop} {Post : (Int32 × sf_S) → Prop} (hs : sf_Snd Wt sf_layM sf_hI jX12_lacks tX12_lacks Post) (hm : sf_mono Wt) : ∀ av σ u, gX12_lacks av σ = some u → Post u → (∀ ad, (lg_sl (av.map (sf_v ad))).length ≤ 4) ∧ Wt 0 (sf_ent 0 av) [] σ := by
  intro av σ u h hp
  unfold gX12_lacks at h
  split at h
  · rename_i q x1 x2 x3
    split at h
    · rename_i hq
      have hq : q = 0 := by simpa using sf_rv_mem hq
      subst hq
      refine ⟨fun ad => Nat.le_of_ble_eq_true rfl, ?_⟩
      exact sf_run_ok hs sf_sm_nil 42 0 _ _ σ u h hp
    · cases h
  · cases h
theorem kX12_lacks (l : Launch) : sf_C l sf_layM yX12_lacks cX12_lacks 4 (some .int) (sf_rm 2 125) (fun av σ => (gX12_lacks av σ).map sf_vI) :=
  sf_met (tab := tX12_lacks) (J := jX12_lacks) (fl := sf_fl12) (cl := sf_cl12) (by decide +kernel) ⟨rfl, rfl⟩ sf_RH_I (by decide +kernel) sf_fl12_ok sf_cl12_ok
    (sf_JO_cons (sf_je_V (n := 2) (cs := [10]) (tv := sf_vI) (kX12_finds l) mwX12_finds (by decide +kernel : decode cX12_lacks 11 = .ok (.invokevirtual 142, 3)) wt_1382 wt_1384 wt_83 (by decide +kernel) (by decide) (by decide) (List.forall_mem_cons.mpr ⟨⟨_, _, rfl⟩, fun _ h => absurd h List.not_mem_nil⟩) (sf_RM_of (by omega) (by omega))) (sf_JO_cons (sf_je_V (n := 2) (cs := [10]) (tv := sf_vI) (kX12_finds l) mwX12_finds (by decide +kernel : decode cX12_lacks 27 = .ok (.invokevirtual 142, 3)) wt_1382 wt_1384 wt_83 (by decide +kernel) (by decide) (by decide) (List.forall_mem_cons.mpr ⟨⟨_, _, rfl⟩, fun _ h => absurd h List.not_mem_nil⟩) (sf_RM_of (by omega) (by omega))) (sf_JO_cons (sf_je_S (n := 3) (tv := sf_vI) (kX12_in l) mwX12_in (by decide +kernel : decode cX12_lacks 43 = .ok (.invokestatic 132, 3)) wt_1378 wt_1379 (by decide +kernel) (sf_RM_of (by omega) (by omega))) (sf_JO_cons (sf_je_V (n := 2) (cs := [10]) (tv := sf_vI) (kX12_finds l) mwX12_finds (by decide +kernel : decode cX12_lacks 55 = .ok (.invokevirtual 142, 3)) wt_1382 wt_1384 wt_83 (by decide +kernel) (by decide) (by decide) (List.forall_mem_cons.mpr ⟨⟨_, _, rfl⟩, fun _ h => absurd h List.not_mem_nil⟩) (sf_RM_of (by omega) (by omega))) (sf_JO_nil)))))
    (fun Wt Post hs hm => rX12_lacks hs hm)
-- ===== StreamFuserModel.cut(II)I =====
abbrev tX12_cut : List (Nat × sf_E) := [(0, (.iload_n 0, 1, 0, .null, [], [])), (1, (.ifCond .ne 8, 4, 9, .null, [], [])), (4, (.iload_n 1, 5, 0, .null, [], [])), (5, (.i2b, 6, 0, .null, [], [])), (6, (.goto 14, 9, 20, .null, [], [])), (9, (.iload_n 0, 10, 0, .null, [], [])), (10, (.iconst 1, 11, 0, .int (1), [], [])), (11, (.if_icmp .ne 8, 14, 19, .null, [], [])), (14, (.iload_n 1, 15, 0, .null, [], [])), (15, (.i2s, 16, 0, .null, [], [])), (16, (.goto 4, 19, 20, .null, [], [])), (19, (.iload_n 1, 20, 0, .null, [], [])), (20, (.ireturn, 21, 0, .null, [], []))]
noncomputable abbrev jX12_cut : List (Nat × sf_J (Int32 × sf_S)) := []
noncomputable def dX12_cut (x0 : Int32) (x1 : Int32) (σ : sf_S) : Option (Int32 × sf_S) :=
  if ¬ x0 = 0 then
    if ¬ x0 = (1 : Int32) then
      some (x1, σ)
    else
      some ((x1).toInt16.toInt32, σ)
  else
    some ((x1).toInt8.toInt32, σ)
noncomputable abbrev gX12_cut (av : List Value) (σ : sf_S) : Option (Int32 × sf_S) := match av with
  | [.int x0, .int x1] => dX12_cut x0 x1 σ
  | _ => none
set_option maxRecDepth 100000 in
set_option maxHeartbeats 4000000 in
theorem rX12_cut {Wt : Nat → sf_L → List Value → sf_S → Prop} {Post : (Int32 × sf_S) → Prop} (hs : sf_Snd Wt sf_layM sf_hI jX12_cut tX12_cut Post) (hm : sf_mono Wt) : ∀ av σ u, gX12_cut av σ = some u → Post u → (∀ ad, (lg_sl (av.map (sf_v ad))).length ≤ 2) ∧ Wt 0 (sf_ent 0 av) [] σ := by
  intro av σ u h hp
  unfold gX12_cut at h
  split at h
  · rename_i x0 x1
    refine ⟨fun ad => Nat.le_of_ble_eq_true rfl, ?_⟩
    exact sf_run_ok hs sf_sm_nil 18 0 _ _ σ u h hp
  · cases h
theorem kX12_cut (l : Launch) : sf_C l sf_layM yX12_cut cX12_cut 2 (some .int) (sf_rm 1 100) (fun av σ => (gX12_cut av σ).map sf_vI) :=
  sf_met (tab := tX12_cut) (J := jX12_cut) (fl := sf_fl12) (cl := sf_cl12) (by decide +kernel) ⟨rfl, rfl⟩ sf_RH_I (by decide +kernel) sf_fl12_ok sf_cl12_ok
    (sf_JO_nil)
    (fun Wt Post hs hm => rX12_cut hs hm)
-- ===== StreamFuserModel.lay(IIII)I =====
abbrev tX12_lay : List (Nat × sf_E) := [(0, (.iload_n 1, 1, 0, .null, [], [])), (1, (.invokestatic 136, 4, 0, .null, [], [])), (4, (.ifCond .eq 15, 7, 19, .null, [], [])), (7, (.iload_n 2, 8, 0, .null, [], [])), (8, (.i2l, 9, 0, .null, [], [])), (9, (.lconst 0, 10, 0, .long 0, [], [])), (10, (.ldc2_w 140, 13, 0, .long (2), [], [])), (13, (.invokestatic 132, 16, 0, .null, [], [])), (16, (.ifCond .ne 6, 19, 22, .null, [], [])), (19, (.bipush (-2), 21, 0, .int (-2), [], [])), (21, (.ireturn, 22, 0, .null, [], [])), (22, (.aload_n 0, 23, 0, .null, [], [])), (23, (.iload_n 1, 24, 0, .null, [], [])), (24, (.iload_n 2, 25, 0, .null, [], [])), (25, (.iload_n 3, 26, 0, .null, [], [])), (26, (.invokevirtual 146, 29, 0, .null, [], [])), (29, (.istore 5, 31, 0, .null, [], [])), (31, (.iload 5, 33, 0, .null, [], [])), (33, (.ifCond .eq 6, 36, 39, .null, [], [])), (36, (.iload 5, 38, 0, .null, [], [])), (38, (.ireturn, 39, 0, .null, [], [])), (39, (.aload_n 0, 40, 0, .null, [], [])), (40, (.getfield 16, 43, 0, .null, [], [(10, 2)])), (43, (.bipush 60, 45, 0, .int (60), [], [])), (45, (.iload_n 1, 46, 0, .null, [], [])), (46, (.imul, 47, 0, .null, [], [])), (47, (.iload_n 3, 48, 0, .null, [], [])), (48, (.iadd, 49, 0, .null, [], [])), (49, (.iload_n 2, 50, 0, .null, [], [])), (50, (.iload 4, 52, 0, .null, [], [])), (52, (.invokestatic 150, 55, 0, .null, [], [])), (55, (.iastore, 56, 0, .null, [], [])), (56, (.iconst 1, 57, 0, .int (1), [], [])), (57, (.ireturn, 58, 0, .null, [], []))]
noncomputable abbrev jX12_lay : List (Nat × sf_J (Int32 × sf_S)) := [(1, sf_jI sf_layM [] 1 gX12_isSheet), (13, sf_jI sf_layM [] 3 gX12_in), (26, sf_jI sf_layM [10] 4 gX12_lacks), (52, sf_jI sf_layM [] 2 gX12_cut)]
noncomputable def dX12_lay (x1 : Int32) (x2 : Int32) (x3 : Int32) (x4 : Int32) (σ : sf_S) : Option (Int32 × sf_S) :=
  (dX12_isSheet x1 σ).bind fun u1 =>
  if u1.1 = 0 then
    some ((-2 : Int32), u1.2)
  else
    (dX12_in x2.toInt64 (0 : Int64) (2 : Int64) u1.2).bind fun u2 =>
    if ¬ u2.1 = 0 then
      (dX12_lacks x1 x2 x3 u2.2).bind fun u3 =>
      if u3.1 = 0 then
        (dX12_cut x2 x4 u3.2).bind fun u4 =>
        let v5 := (((60 : Int32) * x1) + x3)
        if sf_in v5 240 then
          let s6 := sf_up u4.2 3 v5.toNatClampNeg u4.1
          some ((1 : Int32), s6)
        else
          none
      else
        some (u3.1, u3.2)
    else
      some ((-2 : Int32), u2.2)
noncomputable abbrev gX12_lay (av : List Value) (σ : sf_S) : Option (Int32 × sf_S) := match av with
  | [.ref q, .int x1, .int x2, .int x3, .int x4] => (match sf_rv [0] q with | true => dX12_lay x1 x2 x3 x4 σ | false => none)
  | _ => none
set_option maxRecDepth 100000 in
set_option maxHeartbeats 4000000 in
theorem rX12_lay {Wt : Nat → sf_L → List Value → sf_S → Prop} {Post : (Int32 × sf_S) → Prop} (hs : sf_Snd Wt sf_layM sf_hI jX12_lay tX12_lay Post) (hm : sf_mono Wt) : ∀ av σ u, gX12_lay av σ = some u → Post u → (∀ ad, (lg_sl (av.map (sf_v ad))).length ≤ 6) ∧ Wt 0 (sf_ent 0 av) [] σ := by
  intro av σ u h hp
  unfold gX12_lay at h
  split at h
  · rename_i q x1 x2 x3 x4
    split at h
    · rename_i hq
      have hq : q = 0 := by simpa using sf_rv_mem hq
      subst hq
      refine ⟨fun ad => Nat.le_of_ble_eq_true rfl, ?_⟩
      exact sf_run_ok hs sf_sm_nil 39 0 _ _ σ u h hp
    · cases h
  · cases h
theorem kX12_lay (l : Launch) : sf_C l sf_layM yX12_lay cX12_lay 6 (some .int) (sf_rm 3 148) (fun av σ => (gX12_lay av σ).map sf_vI) :=
  sf_met (tab := tX12_lay) (J := jX12_lay) (fl := sf_fl12) (cl := sf_cl12) (by decide +kernel) ⟨rfl, rfl⟩ sf_RH_I (by decide +kernel) sf_fl12_ok sf_cl12_ok
    (sf_JO_cons (sf_je_S (n := 1) (tv := sf_vI) (kX12_isSheet l) mwX12_isSheet (by decide +kernel : decode cX12_lay 1 = .ok (.invokestatic 136, 3)) wt_1374 wt_1375 (by decide +kernel) (sf_RM_of (by omega) (by omega))) (sf_JO_cons (sf_je_S (n := 3) (tv := sf_vI) (kX12_in l) mwX12_in (by decide +kernel : decode cX12_lay 13 = .ok (.invokestatic 132, 3)) wt_1378 wt_1379 (by decide +kernel) (sf_RM_of (by omega) (by omega))) (sf_JO_cons (sf_je_V (n := 4) (cs := [10]) (tv := sf_vI) (kX12_lacks l) mwX12_lacks (by decide +kernel : decode cX12_lay 26 = .ok (.invokevirtual 146, 3)) wt_1394 wt_1396 wt_84 (by decide +kernel) (by decide) (by decide) (List.forall_mem_cons.mpr ⟨⟨_, _, rfl⟩, fun _ h => absurd h List.not_mem_nil⟩) (sf_RM_of (by omega) (by omega))) (sf_JO_cons (sf_je_S (n := 2) (tv := sf_vI) (kX12_cut l) mwX12_cut (by decide +kernel : decode cX12_lay 52 = .ok (.invokestatic 150, 3)) wt_1398 wt_1399 (by decide +kernel) (sf_RM_of (by omega) (by omega))) (sf_JO_nil)))))
    (fun Wt Post hs hm => rX12_lay hs hm)
-- ===== StreamFuserModel.get(III)I =====
abbrev tX12_get : List (Nat × sf_E) := [(0, (.iload_n 1, 1, 0, .null, [], [])), (1, (.invokestatic 136, 4, 0, .null, [], [])), (4, (.ifCond .eq 25, 7, 29, .null, [], [])), (7, (.iload_n 2, 8, 0, .null, [], [])), (8, (.i2l, 9, 0, .null, [], [])), (9, (.lconst 0, 10, 0, .long 0, [], [])), (10, (.ldc2_w 140, 13, 0, .long (2), [], [])), (13, (.invokestatic 132, 16, 0, .null, [], [])), (16, (.ifCond .eq 13, 19, 29, .null, [], [])), (19, (.aload_n 0, 20, 0, .null, [], [])), (20, (.iload_n 1, 21, 0, .null, [], [])), (21, (.iload_n 2, 22, 0, .null, [], [])), (22, (.iload_n 3, 23, 0, .null, [], [])), (23, (.invokevirtual 146, 26, 0, .null, [], [])), (26, (.ifCond .eq 6, 29, 32, .null, [], [])), (29, (.ldc 154, 31, 0, .int (-2147483648), [], [])), (31, (.ireturn, 32, 0, .null, [], [])), (32, (.aload_n 0, 33, 0, .null, [], [])), (33, (.getfield 16, 36, 0, .null, [], [(10, 2)])), (36, (.bipush 60, 38, 0, .int (60), [], [])), (38, (.iload_n 1, 39, 0, .null, [], [])), (39, (.imul, 40, 0, .null, [], [])), (40, (.iload_n 3, 41, 0, .null, [], [])), (41, (.iadd, 42, 0, .null, [], [])), (42, (.iaload, 43, 0, .null, [], [])), (43, (.ireturn, 44, 0, .null, [], []))]
noncomputable abbrev jX12_get : List (Nat × sf_J (Int32 × sf_S)) := [(1, sf_jI sf_layM [] 1 gX12_isSheet), (13, sf_jI sf_layM [] 3 gX12_in), (23, sf_jI sf_layM [10] 4 gX12_lacks)]
noncomputable def dX12_get (x1 : Int32) (x2 : Int32) (x3 : Int32) (σ : sf_S) : Option (Int32 × sf_S) :=
  (dX12_isSheet x1 σ).bind fun u1 =>
  if u1.1 = 0 then
    some ((-2147483648 : Int32), u1.2)
  else
    (dX12_in x2.toInt64 (0 : Int64) (2 : Int64) u1.2).bind fun u2 =>
    if u2.1 = 0 then
      some ((-2147483648 : Int32), u2.2)
    else
      (dX12_lacks x1 x2 x3 u2.2).bind fun u3 =>
      if u3.1 = 0 then
        let v4 := (((60 : Int32) * x1) + x3)
        if sf_in v4 240 then
          some ((u3.2 3 v4.toNatClampNeg), u3.2)
        else
          none
      else
        some ((-2147483648 : Int32), u3.2)
noncomputable abbrev gX12_get (av : List Value) (σ : sf_S) : Option (Int32 × sf_S) := match av with
  | [.ref q, .int x1, .int x2, .int x3] => (match sf_rv [0] q with | true => dX12_get x1 x2 x3 σ | false => none)
  | _ => none
set_option maxRecDepth 100000 in
set_option maxHeartbeats 4000000 in
theorem rX12_get {Wt : Nat → sf_L → List Value → sf_S → Prop} {Post : (Int32 × sf_S) → Prop} (hs : sf_Snd Wt sf_layM sf_hI jX12_get tX12_get Post) (hm : sf_mono Wt) : ∀ av σ u, gX12_get av σ = some u → Post u → (∀ ad, (lg_sl (av.map (sf_v ad))).length ≤ 4) ∧ Wt 0 (sf_ent 0 av) [] σ := by
  intro av σ u h hp
  unfold gX12_get at h
  split at h
  · rename_i q x1 x2 x3
    split at h
    · rename_i hq
      have hq : q = 0 := by simpa using sf_rv_mem hq
      subst hq
      refine ⟨fun ad => Nat.le_of_ble_eq_true rfl, ?_⟩
      exact sf_run_ok hs sf_sm_nil 31 0 _ _ σ u h hp
    · cases h
  · cases h
theorem kX12_get (l : Launch) : sf_C l sf_layM yX12_get cX12_get 4 (some .int) (sf_rm 3 148) (fun av σ => (gX12_get av σ).map sf_vI) :=
  sf_met (tab := tX12_get) (J := jX12_get) (fl := sf_fl12) (cl := sf_cl12) (by decide +kernel) ⟨rfl, rfl⟩ sf_RH_I (by decide +kernel) sf_fl12_ok sf_cl12_ok
    (sf_JO_cons (sf_je_S (n := 1) (tv := sf_vI) (kX12_isSheet l) mwX12_isSheet (by decide +kernel : decode cX12_get 1 = .ok (.invokestatic 136, 3)) wt_1374 wt_1375 (by decide +kernel) (sf_RM_of (by omega) (by omega))) (sf_JO_cons (sf_je_S (n := 3) (tv := sf_vI) (kX12_in l) mwX12_in (by decide +kernel : decode cX12_get 13 = .ok (.invokestatic 132, 3)) wt_1378 wt_1379 (by decide +kernel) (sf_RM_of (by omega) (by omega))) (sf_JO_cons (sf_je_V (n := 4) (cs := [10]) (tv := sf_vI) (kX12_lacks l) mwX12_lacks (by decide +kernel : decode cX12_get 23 = .ok (.invokevirtual 146, 3)) wt_1394 wt_1396 wt_84 (by decide +kernel) (by decide) (by decide) (List.forall_mem_cons.mpr ⟨⟨_, _, rfl⟩, fun _ h => absurd h List.not_mem_nil⟩) (sf_RM_of (by omega) (by omega))) (sf_JO_nil))))
    (fun Wt Post hs hm => rX12_get hs hm)
-- ===== StreamFuserModel.copy(IIIII)I =====
abbrev tX12_copy : List (Nat × sf_E) := [(0, (.iload_n 1, 1, 0, .null, [], [])), (1, (.invokestatic 136, 4, 0, .null, [], [])), (4, (.ifCond .eq 10, 7, 14, .null, [], [])), (7, (.iload_n 3, 8, 0, .null, [], [])), (8, (.invokestatic 136, 11, 0, .null, [], [])), (11, (.ifCond .ne 6, 14, 17, .null, [], [])), (14, (.bipush (-2), 16, 0, .int (-2), [], [])), (16, (.ireturn, 17, 0, .null, [], [])), (17, (.aload_n 0, 18, 0, .null, [], [])), (18, (.getfield 7, 21, 0, .null, [], [(10, 0)])), (21, (.iload_n 1, 22, 0, .null, [], [])), (22, (.iaload, 23, 0, .null, [], [])), (23, (.ifCond .lt 12, 26, 35, .null, [], [])), (26, (.aload_n 0, 27, 0, .null, [], [])), (27, (.getfield 7, 30, 0, .null, [], [(10, 0)])), (30, (.iload_n 3, 31, 0, .null, [], [])), (31, (.iaload, 32, 0, .null, [], [])), (32, (.ifCond .ge 9, 35, 41, .null, [], [])), (35, (.aload_n 0, 36, 0, .null, [], [])), (36, (.iconst 1, 37, 0, .int (1), [], [])), (37, (.invokevirtual 142, 40, 0, .null, [], [])), (40, (.ireturn, 41, 0, .null, [], [])), (41, (.aload_n 0, 42, 0, .null, [], [])), (42, (.getfield 7, 45, 0, .null, [], [(10, 0)])), (45, (.iload_n 1, 46, 0, .null, [], [])), (46, (.iaload, 47, 0, .null, [], [])), (47, (.aload_n 0, 48, 0, .null, [], [])), (48, (.getfield 7, 51, 0, .null, [], [(10, 0)])), (51, (.iload_n 3, 52, 0, .null, [], [])), (52, (.iaload, 53, 0, .null, [], [])), (53, (.if_icmp .eq 9, 56, 62, .null, [], [])), (56, (.aload_n 0, 57, 0, .null, [], [])), (57, (.iconst 4, 58, 0, .int (4), [], [])), (58, (.invokevirtual 142, 61, 0, .null, [], [])), (61, (.ireturn, 62, 0, .null, [], [])), (62, (.iload_n 2, 63, 0, .null, [], [])), (63, (.ifCond .lt 48, 66, 111, .null, [], [])), (66, (.iload 4, 68, 0, .null, [], [])), (68, (.ifCond .lt 43, 71, 111, .null, [], [])), (71, (.iload 5, 73, 0, .null, [], [])), (73, (.ifCond .lt 38, 76, 111, .null, [], [])), (76, (.iload_n 2, 77, 0, .null, [], [])), (77, (.i2l, 78, 0, .null, [], [])), (78, (.iload 5, 80, 0, .null, [], [])), (80, (.i2l, 81, 0, .null, [], [])), (81, (.ladd, 82, 0, .null, [], [])), (82, (.aload_n 0, 83, 0, .null, [], [])), (83, (.getfield 13, 86, 0, .null, [], [(10, 1)])), (86, (.iload_n 1, 87, 0, .null, [], [])), (87, (.iaload, 88, 0, .null, [], [])), (88, (.i2l, 89, 0, .null, [], [])), (89, (.lcmp, 90, 0, .null, [], [])), (90, (.ifCond .gt 21, 93, 111, .null, [], [])), (93, (.iload 4, 95, 0, .null, [], [])), (95, (.i2l, 96, 0, .null, [], [])), (96, (.iload 5, 98, 0, .null, [], [])), (98, (.i2l, 99, 0, .null, [], [])), (99, (.ladd, 100, 0, .null, [], [])), (100, (.aload_n 0, 101, 0, .null, [], [])), (101, (.getfield 13, 104, 0, .null, [], [(10, 1)])), (104, (.iload_n 3, 105, 0, .null, [], [])), (105, (.iaload, 106, 0, .null, [], [])), (106, (.i2l, 107, 0, .null, [], [])), (107, (.lcmp, 108, 0, .null, [], [])), (108, (.ifCond .le 9, 111, 117, .null, [], [])), (111, (.aload_n 0, 112, 0, .null, [], [])), (112, (.iconst 2, 113, 0, .int (2), [], [])), (113, (.invokevirtual 142, 116, 0, .null, [], [])), (116, (.ireturn, 117, 0, .null, [], [])), (117, (.iconst 0, 118, 0, .int (0), [], [])), (118, (.istore 6, 120, 0, .null, [], [])), (120, (.iload 6, 122, 0, .null, [], [])), (122, (.iload 5, 124, 0, .null, [], [])), (124, (.if_icmp .ge 30, 127, 154, .null, [], [])), (127, (.aload_n 0, 128, 0, .null, [], [])), (128, (.getfield 19, 131, 0, .null, [], [(10, 3)])), (131, (.iload 6, 133, 0, .null, [], [])), (133, (.aload_n 0, 134, 0, .null, [], [])), (134, (.getfield 16, 137, 0, .null, [], [(10, 2)])), (137, (.bipush 60, 139, 0, .int (60), [], [])), (139, (.iload_n 1, 140, 0, .null, [], [])), (140, (.imul, 141, 0, .null, [], [])), (141, (.iload_n 2, 142, 0, .null, [], [])), (142, (.iadd, 143, 0, .null, [], [])), (143, (.iload 6, 145, 0, .null, [], [])), (145, (.iadd, 146, 0, .null, [], [])), (146, (.iaload, 147, 0, .null, [], [])), (147, (.iastore, 148, 0, .null, [], [])), (148, (.iinc 6 1, 151, 0, .int (1), [], [])), (151, (.goto (-31), 154, 120, .null, [], [])), (154, (.iconst 0, 155, 0, .int (0), [], [])), (155, (.istore 6, 157, 0, .null, [], [])), (157, (.iload 6, 159, 0, .null, [], [])), (159, (.iload 5, 161, 0, .null, [], [])), (161, (.if_icmp .ge 31, 164, 192, .null, [], [])), (164, (.aload_n 0, 165, 0, .null, [], [])), (165, (.getfield 16, 168, 0, .null, [], [(10, 2)])), (168, (.bipush 60, 170, 0, .int (60), [], [])), (170, (.iload_n 3, 171, 0, .null, [], [])), (171, (.imul, 172, 0, .null, [], [])), (172, (.iload 4, 174, 0, .null, [], [])), (174, (.iadd, 175, 0, .null, [], [])), (175, (.iload 6, 177, 0, .null, [], [])), (177, (.iadd, 178, 0, .null, [], [])), (178, (.aload_n 0, 179, 0, .null, [], [])), (179, (.getfield 19, 182, 0, .null, [], [(10, 3)])), (182, (.iload 6, 184, 0, .null, [], [])), (184, (.iaload, 185, 0, .null, [], [])), (185, (.iastore, 186, 0, .null, [], [])), (186, (.iinc 6 1, 189, 0, .int (1), [], [])), (189, (.goto (-32), 192, 157, .null, [], [])), (192, (.iconst 1, 193, 0, .int (1), [], [])), (193, (.ireturn, 194, 0, .null, [], []))]
noncomputable abbrev jX12_copy : List (Nat × sf_J (Int32 × sf_S)) := [(1, sf_jI sf_layM [] 1 gX12_isSheet), (8, sf_jI sf_layM [] 1 gX12_isSheet), (37, sf_jI sf_layM [10] 2 gX12_finds), (58, sf_jI sf_layM [10] 2 gX12_finds), (113, sf_jI sf_layM [10] 2 gX12_finds)]
abbrev wX12_copy_157 {ρ : Type} (k : Int32 → Int32 → Int32 → Int32 → sf_S → Option ρ) : sf_M ρ := fun L st σ => sf_lda L 0 fun a0 => sf_eq a0 0 (sf_ldi L 3 fun x3 => sf_ldi L 4 fun x4 => sf_ldi L 5 fun x5 => sf_ldi L 6 fun x6 => sf_nil st (k x3 x4 x5 x6 σ))
theorem wX12_copy_157_ok {ρ : Type} {Wt : Nat → sf_L → List Value → sf_S → Prop} {Post : ρ → Prop} (hm : sf_mono Wt) {k : Int32 → Int32 → Int32 → Int32 → sf_S → Option ρ} (h : ∀ (x3 : Int32) (x4 : Int32) (x5 : Int32) (x6 : Int32) (σ : sf_S) (u : ρ), k x3 x4 x5 x6 σ = some u → Post u → Wt 157 [(0, some (.ref 0)), (3, some (.int x3)), (4, some (.int x4)), (5, some (.int x5)), (6, some (.int x6))] [] σ) : sf_CK Wt Post 157 (wX12_copy_157 k) := by
  intro L st σ u hf hp
  unfold wX12_copy_157 at hf
  have hf0 := hf
  obtain ⟨a0, e0, hf1⟩ := sf_lda_inv hf0
  obtain ⟨rfl, hf2⟩ := sf_eq_inv hf1
  obtain ⟨x3, e3, hf3⟩ := sf_ldi_inv hf2
  obtain ⟨x4, e4, hf4⟩ := sf_ldi_inv hf3
  obtain ⟨x5, e5, hf5⟩ := sf_ldi_inv hf4
  obtain ⟨x6, e6, hf6⟩ := sf_ldi_inv hf5
  obtain ⟨rfl, hz⟩ := sf_nil_inv hf6
  exact hm _ [(0, some (.ref _)), (3, some (.int x3)), (4, some (.int x4)), (5, some (.int x5)), (6, some (.int x6))] _ _ _ (sf_le_ok (And.intro e0 (And.intro e3 (And.intro e4 (And.intro e5 (And.intro e6 trivial)))))) (h _ _ _ _ _ _ hz hp)
abbrev wX12_copy_120 {ρ : Type} (k : Int32 → Int32 → Int32 → Int32 → Int32 → Int32 → sf_S → Option ρ) : sf_M ρ := fun L st σ => sf_lda L 0 fun a0 => sf_eq a0 0 (sf_ldi L 1 fun x1 => sf_ldi L 2 fun x2 => sf_ldi L 3 fun x3 => sf_ldi L 4 fun x4 => sf_ldi L 5 fun x5 => sf_ldi L 6 fun x6 => sf_nil st (k x1 x2 x3 x4 x5 x6 σ))
theorem wX12_copy_120_ok {ρ : Type} {Wt : Nat → sf_L → List Value → sf_S → Prop} {Post : ρ → Prop} (hm : sf_mono Wt) {k : Int32 → Int32 → Int32 → Int32 → Int32 → Int32 → sf_S → Option ρ} (h : ∀ (x1 : Int32) (x2 : Int32) (x3 : Int32) (x4 : Int32) (x5 : Int32) (x6 : Int32) (σ : sf_S) (u : ρ), k x1 x2 x3 x4 x5 x6 σ = some u → Post u → Wt 120 [(0, some (.ref 0)), (1, some (.int x1)), (2, some (.int x2)), (3, some (.int x3)), (4, some (.int x4)), (5, some (.int x5)), (6, some (.int x6))] [] σ) : sf_CK Wt Post 120 (wX12_copy_120 k) := by
  intro L st σ u hf hp
  unfold wX12_copy_120 at hf
  have hf0 := hf
  obtain ⟨a0, e0, hf1⟩ := sf_lda_inv hf0
  obtain ⟨rfl, hf2⟩ := sf_eq_inv hf1
  obtain ⟨x1, e1, hf3⟩ := sf_ldi_inv hf2
  obtain ⟨x2, e2, hf4⟩ := sf_ldi_inv hf3
  obtain ⟨x3, e3, hf5⟩ := sf_ldi_inv hf4
  obtain ⟨x4, e4, hf6⟩ := sf_ldi_inv hf5
  obtain ⟨x5, e5, hf7⟩ := sf_ldi_inv hf6
  obtain ⟨x6, e6, hf8⟩ := sf_ldi_inv hf7
  obtain ⟨rfl, hz⟩ := sf_nil_inv hf8
  exact hm _ [(0, some (.ref _)), (1, some (.int x1)), (2, some (.int x2)), (3, some (.int x3)), (4, some (.int x4)), (5, some (.int x5)), (6, some (.int x6))] _ _ _ (sf_le_ok (And.intro e0 (And.intro e1 (And.intro e2 (And.intro e3 (And.intro e4 (And.intro e5 (And.intro e6 trivial)))))))) (h _ _ _ _ _ _ _ _ hz hp)
noncomputable def dX12_copy_157 : Nat → Int32 → Int32 → Int32 → Int32 → sf_S → Option (Int32 × sf_S)
  | 0 => fun _ _ _ _ _ => none
  | n + 1 => fun x3 x4 x5 x6 σ =>
    if x5 ≤ x6 then
      some ((1 : Int32), σ)
    else
      if sf_in x6 60 then
        let v1 := ((((60 : Int32) * x3) + x4) + x6)
        if sf_in v1 240 then
          let s2 := sf_up σ 3 v1.toNatClampNeg (σ 4 x6.toNatClampNeg)
          dX12_copy_157 n x3 x4 x5 (x6 + (1 : Int32)) s2
        else
          none
      else
        none
set_option maxRecDepth 100000 in
set_option maxHeartbeats 4000000 in
theorem rX12_copy_157 {Wt : Nat → sf_L → List Value → sf_S → Prop} {Post : (Int32 × sf_S) → Prop} (hs : sf_Snd Wt sf_layM sf_hI jX12_copy tX12_copy Post) (hm : sf_mono Wt) : ∀ n : Nat, sf_CK Wt Post 157 (wX12_copy_157 (dX12_copy_157 n)) := by
  intro n
  induction n with
  | zero => exact wX12_copy_157_ok hm (fun x3 x4 x5 x6 σ u h _ => by simp [dX12_copy_157] at h)
  | succ n ih =>
    refine wX12_copy_157_ok hm ?_
    intro x3 x4 x5 x6 σ u h hp
    exact sf_run_ok hs (sf_sm_cons ih sf_sm_nil) 118 157 _ _ σ u h hp
noncomputable def dX12_copy_120 : Nat → Int32 → Int32 → Int32 → Int32 → Int32 → Int32 → sf_S → Option (Int32 × sf_S)
  | 0 => fun _ _ _ _ _ _ _ => none
  | n + 1 => fun x1 x2 x3 x4 x5 x6 σ =>
    if x5 ≤ x6 then
      dX12_copy_157 sf_F x3 x4 x5 (0 : Int32) σ
    else
      let v1 := ((((60 : Int32) * x1) + x2) + x6)
      if sf_in v1 240 then
        if sf_in x6 60 then
          let s2 := sf_up σ 4 x6.toNatClampNeg (σ 3 v1.toNatClampNeg)
          dX12_copy_120 n x1 x2 x3 x4 x5 (x6 + (1 : Int32)) s2
        else
          none
      else
        none
set_option maxRecDepth 100000 in
set_option maxHeartbeats 4000000 in
theorem rX12_copy_120 {Wt : Nat → sf_L → List Value → sf_S → Prop} {Post : (Int32 × sf_S) → Prop} (hs : sf_Snd Wt sf_layM sf_hI jX12_copy tX12_copy Post) (hm : sf_mono Wt) : ∀ n : Nat, sf_CK Wt Post 120 (wX12_copy_120 (dX12_copy_120 n)) := by
  intro n
  induction n with
  | zero => exact wX12_copy_120_ok hm (fun x1 x2 x3 x4 x5 x6 σ u h _ => by simp [dX12_copy_120] at h)
  | succ n ih =>
    refine wX12_copy_120_ok hm ?_
    intro x1 x2 x3 x4 x5 x6 σ u h hp
    exact sf_run_ok hs (sf_sm_cons ih (sf_sm_cons (rX12_copy_157 hs hm sf_F) sf_sm_nil)) 118 120 _ _ σ u h hp
noncomputable def dX12_copy (x1 : Int32) (x2 : Int32) (x3 : Int32) (x4 : Int32) (x5 : Int32) (σ : sf_S) : Option (Int32 × sf_S) :=
  (dX12_isSheet x1 σ).bind fun u1 =>
  if u1.1 = 0 then
    some ((-2 : Int32), u1.2)
  else
    (dX12_isSheet x3 u1.2).bind fun u2 =>
    if ¬ u2.1 = 0 then
      if sf_in x1 4 then
        if (u2.2 1 x1.toNatClampNeg) < 0 then
          (dX12_finds (1 : Int32) u2.2).bind fun u3 =>
          some (u3.1, u3.2)
        else
          if sf_in x3 4 then
            if 0 ≤ (u2.2 1 x3.toNatClampNeg) then
              if sf_in x1 4 then
                if sf_in x3 4 then
                  if (u2.2 1 x1.toNatClampNeg) = (u2.2 1 x3.toNatClampNeg) then
                    if x2 < 0 then
                      (dX12_finds (2 : Int32) u2.2).bind fun u4 =>
                      some (u4.1, u4.2)
                    else
                      if x4 < 0 then
                        (dX12_finds (2 : Int32) u2.2).bind fun u5 =>
                        some (u5.1, u5.2)
                      else
                        if x5 < 0 then
                          (dX12_finds (2 : Int32) u2.2).bind fun u6 =>
                          some (u6.1, u6.2)
                        else
                          if sf_in x1 4 then
                            if 0 < (lg_cmp (x2.toInt64 + x5.toInt64) ((u2.2 2 x1.toNatClampNeg)).toInt64) then
                              (dX12_finds (2 : Int32) u2.2).bind fun u7 =>
                              some (u7.1, u7.2)
                            else
                              if sf_in x3 4 then
                                if (lg_cmp (x4.toInt64 + x5.toInt64) ((u2.2 2 x3.toNatClampNeg)).toInt64) ≤ 0 then
                                  dX12_copy_120 sf_F x1 x2 x3 x4 x5 (0 : Int32) u2.2
                                else
                                  (dX12_finds (2 : Int32) u2.2).bind fun u8 =>
                                  some (u8.1, u8.2)
                              else
                                none
                          else
                            none
                  else
                    (dX12_finds (4 : Int32) u2.2).bind fun u9 =>
                    some (u9.1, u9.2)
                else
                  none
              else
                none
            else
              (dX12_finds (1 : Int32) u2.2).bind fun u10 =>
              some (u10.1, u10.2)
          else
            none
      else
        none
    else
      some ((-2 : Int32), u2.2)
noncomputable abbrev gX12_copy (av : List Value) (σ : sf_S) : Option (Int32 × sf_S) := match av with
  | [.ref q, .int x1, .int x2, .int x3, .int x4, .int x5] => (match sf_rv [0] q with | true => dX12_copy x1 x2 x3 x4 x5 σ | false => none)
  | _ => none
set_option maxRecDepth 100000 in
set_option maxHeartbeats 4000000 in
theorem rX12_copy {Wt : Nat → sf_L → List Value → sf_S → Prop} {Post : (Int32 × sf_S) → Prop} (hs : sf_Snd Wt sf_layM sf_hI jX12_copy tX12_copy Post) (hm : sf_mono Wt) : ∀ av σ u, gX12_copy av σ = some u → Post u → (∀ ad, (lg_sl (av.map (sf_v ad))).length ≤ 7) ∧ Wt 0 (sf_ent 0 av) [] σ := by
  intro av σ u h hp
  unfold gX12_copy at h
  split at h
  · rename_i q x1 x2 x3 x4 x5
    split at h
    · rename_i hq
      have hq : q = 0 := by simpa using sf_rv_mem hq
      subst hq
      refine ⟨fun ad => Nat.le_of_ble_eq_true rfl, ?_⟩
      exact sf_run_ok hs (sf_sm_cons (rX12_copy_120 hs hm sf_F) sf_sm_nil) 118 0 _ _ σ u h hp
    · cases h
  · cases h
theorem kX12_copy (l : Launch) : sf_C l sf_layM yX12_copy cX12_copy 7 (some .int) (sf_rm 3 145) (fun av σ => (gX12_copy av σ).map sf_vI) :=
  sf_met (tab := tX12_copy) (J := jX12_copy) (fl := sf_fl12) (cl := sf_cl12) (by decide +kernel) ⟨rfl, rfl⟩ sf_RH_I (by decide +kernel) sf_fl12_ok sf_cl12_ok
    (sf_JO_cons (sf_je_S (n := 1) (tv := sf_vI) (kX12_isSheet l) mwX12_isSheet (by decide +kernel : decode cX12_copy 1 = .ok (.invokestatic 136, 3)) wt_1374 wt_1375 (by decide +kernel) (sf_RM_of (by omega) (by omega))) (sf_JO_cons (sf_je_S (n := 1) (tv := sf_vI) (kX12_isSheet l) mwX12_isSheet (by decide +kernel : decode cX12_copy 8 = .ok (.invokestatic 136, 3)) wt_1374 wt_1375 (by decide +kernel) (sf_RM_of (by omega) (by omega))) (sf_JO_cons (sf_je_V (n := 2) (cs := [10]) (tv := sf_vI) (kX12_finds l) mwX12_finds (by decide +kernel : decode cX12_copy 37 = .ok (.invokevirtual 142, 3)) wt_1382 wt_1384 wt_83 (by decide +kernel) (by decide) (by decide) (List.forall_mem_cons.mpr ⟨⟨_, _, rfl⟩, fun _ h => absurd h List.not_mem_nil⟩) (sf_RM_of (by omega) (by omega))) (sf_JO_cons (sf_je_V (n := 2) (cs := [10]) (tv := sf_vI) (kX12_finds l) mwX12_finds (by decide +kernel : decode cX12_copy 58 = .ok (.invokevirtual 142, 3)) wt_1382 wt_1384 wt_83 (by decide +kernel) (by decide) (by decide) (List.forall_mem_cons.mpr ⟨⟨_, _, rfl⟩, fun _ h => absurd h List.not_mem_nil⟩) (sf_RM_of (by omega) (by omega))) (sf_JO_cons (sf_je_V (n := 2) (cs := [10]) (tv := sf_vI) (kX12_finds l) mwX12_finds (by decide +kernel : decode cX12_copy 113 = .ok (.invokevirtual 142, 3)) wt_1382 wt_1384 wt_83 (by decide +kernel) (by decide) (by decide) (List.forall_mem_cons.mpr ⟨⟨_, _, rfl⟩, fun _ h => absurd h List.not_mem_nil⟩) (sf_RM_of (by omega) (by omega))) (sf_JO_nil))))))
    (fun Wt Post hs hm => rX12_copy hs hm)
-- ===== StreamFuserModel.type(I)I =====
abbrev tX12_type : List (Nat × sf_E) := [(0, (.iload_n 1, 1, 0, .null, [], [])), (1, (.i2l, 2, 0, .null, [], [])), (2, (.lconst 0, 3, 0, .long 0, [], [])), (3, (.ldc2_w 155, 6, 0, .long (255), [], [])), (6, (.invokestatic 132, 9, 0, .null, [], [])), (9, (.ifCond .ne 6, 12, 15, .null, [], [])), (12, (.bipush (-2), 14, 0, .int (-2), [], [])), (14, (.ireturn, 15, 0, .null, [], [])), (15, (.aload_n 0, 16, 0, .null, [], [])), (16, (.getfield 157, 19, 0, .null, [], [(10, 6)])), (19, (.bipush 40, 21, 0, .int (40), [], [])), (21, (.if_icmp .ne 6, 24, 27, .null, [], [])), (24, (.bipush (-4), 26, 0, .int (-4), [], [])), (26, (.ireturn, 27, 0, .null, [], [])), (27, (.aload_n 0, 28, 0, .null, [], [])), (28, (.getfield 22, 31, 0, .null, [], [(10, 5)])), (31, (.aload_n 0, 32, 0, .null, [], [])), (32, (.getfield 157, 35, 0, .null, [], [(10, 6)])), (35, (.iload_n 1, 36, 0, .null, [], [])), (36, (.iastore, 37, 0, .null, [], [])), (37, (.aload_n 0, 38, 0, .null, [], [])), (38, (.dup, 39, 0, .null, [], [])), (39, (.getfield 157, 42, 0, .null, [], [(10, 6)])), (42, (.iconst 1, 43, 0, .int (1), [], [])), (43, (.iadd, 44, 0, .null, [], [])), (44, (.putfield 157, 47, 0, .null, [], [(10, 6)])), (47, (.aload_n 0, 48, 0, .null, [], [])), (48, (.getfield 157, 51, 0, .null, [], [(10, 6)])), (51, (.ireturn, 52, 0, .null, [], []))]
noncomputable abbrev jX12_type : List (Nat × sf_J (Int32 × sf_S)) := [(6, sf_jI sf_layM [] 3 gX12_in)]
noncomputable def dX12_type (x1 : Int32) (σ : sf_S) : Option (Int32 × sf_S) :=
  (dX12_in x1.toInt64 (0 : Int64) (255 : Int64) σ).bind fun u1 =>
  if ¬ u1.1 = 0 then
    if ¬ (u1.2 0 6) = (40 : Int32) then
      let v2 := (u1.2 0 6)
      if sf_in v2 40 then
        let s3 := sf_up u1.2 5 v2.toNatClampNeg x1
        let s4 := sf_up s3 0 6 ((s3 0 6) + (1 : Int32))
        some ((s4 0 6), s4)
      else
        none
    else
      some ((-4 : Int32), u1.2)
  else
    some ((-2 : Int32), u1.2)
noncomputable abbrev gX12_type (av : List Value) (σ : sf_S) : Option (Int32 × sf_S) := match av with
  | [.ref q, .int x1] => (match sf_rv [0] q with | true => dX12_type x1 σ | false => none)
  | _ => none
set_option maxRecDepth 100000 in
set_option maxHeartbeats 4000000 in
theorem rX12_type {Wt : Nat → sf_L → List Value → sf_S → Prop} {Post : (Int32 × sf_S) → Prop} (hs : sf_Snd Wt sf_layM sf_hI jX12_type tX12_type Post) (hm : sf_mono Wt) : ∀ av σ u, gX12_type av σ = some u → Post u → (∀ ad, (lg_sl (av.map (sf_v ad))).length ≤ 2) ∧ Wt 0 (sf_ent 0 av) [] σ := by
  intro av σ u h hp
  unfold gX12_type at h
  split at h
  · rename_i q x1
    split at h
    · rename_i hq
      have hq : q = 0 := by simpa using sf_rv_mem hq
      subst hq
      refine ⟨fun ad => Nat.le_of_ble_eq_true rfl, ?_⟩
      exact sf_run_ok hs sf_sm_nil 34 0 _ _ σ u h hp
    · cases h
  · cases h
theorem kX12_type (l : Launch) : sf_C l sf_layM yX12_type cX12_type 2 (some .int) (sf_rm 2 125) (fun av σ => (gX12_type av σ).map sf_vI) :=
  sf_met (tab := tX12_type) (J := jX12_type) (fl := sf_fl12) (cl := sf_cl12) (by decide +kernel) ⟨rfl, rfl⟩ sf_RH_I (by decide +kernel) sf_fl12_ok sf_cl12_ok
    (sf_JO_cons (sf_je_S (n := 3) (tv := sf_vI) (kX12_in l) mwX12_in (by decide +kernel : decode cX12_type 6 = .ok (.invokestatic 132, 3)) wt_1378 wt_1379 (by decide +kernel) (sf_RM_of (by omega) (by omega))) (sf_JO_nil))
    (fun Wt Post hs hm => rX12_type hs hm)
-- ===== StreamFuserModel.wipe()I =====
abbrev tX12_wipe : List (Nat × sf_E) := [(0, (.aload_n 0, 1, 0, .null, [], [])), (1, (.getfield 157, 4, 0, .null, [], [(10, 6)])), (4, (.istore_n 1, 5, 0, .null, [], [])), (5, (.aload_n 0, 6, 0, .null, [], [])), (6, (.iconst 0, 7, 0, .int (0), [], [])), (7, (.putfield 157, 10, 0, .null, [], [(10, 6)])), (10, (.iload_n 1, 11, 0, .null, [], [])), (11, (.ireturn, 12, 0, .null, [], []))]
noncomputable abbrev jX12_wipe : List (Nat × sf_J (Int32 × sf_S)) := []
noncomputable def dX12_wipe (σ : sf_S) : Option (Int32 × sf_S) :=
  let v1 := (σ 0 6)
  let s2 := sf_up σ 0 6 (0 : Int32)
  some (v1, s2)
noncomputable abbrev gX12_wipe (av : List Value) (σ : sf_S) : Option (Int32 × sf_S) := match av with
  | [.ref q] => (match sf_rv [0] q with | true => dX12_wipe σ | false => none)
  | _ => none
set_option maxRecDepth 100000 in
set_option maxHeartbeats 4000000 in
theorem rX12_wipe {Wt : Nat → sf_L → List Value → sf_S → Prop} {Post : (Int32 × sf_S) → Prop} (hs : sf_Snd Wt sf_layM sf_hI jX12_wipe tX12_wipe Post) (hm : sf_mono Wt) : ∀ av σ u, gX12_wipe av σ = some u → Post u → (∀ ad, (lg_sl (av.map (sf_v ad))).length ≤ 2) ∧ Wt 0 (sf_ent 0 av) [] σ := by
  intro av σ u h hp
  unfold gX12_wipe at h
  split at h
  · rename_i q
    split at h
    · rename_i hq
      have hq : q = 0 := by simpa using sf_rv_mem hq
      subst hq
      refine ⟨fun ad => Nat.le_of_ble_eq_true rfl, ?_⟩
      exact sf_run_ok hs sf_sm_nil 13 0 _ _ σ u h hp
    · cases h
  · cases h
theorem kX12_wipe (l : Launch) : sf_C l sf_layM yX12_wipe cX12_wipe 2 (some .int) (sf_rm 1 100) (fun av σ => (gX12_wipe av σ).map sf_vI) :=
  sf_met (tab := tX12_wipe) (J := jX12_wipe) (fl := sf_fl12) (cl := sf_cl12) (by decide +kernel) ⟨rfl, rfl⟩ sf_RH_I (by decide +kernel) sf_fl12_ok sf_cl12_ok
    (sf_JO_nil)
    (fun Wt Post hs hm => rX12_wipe hs hm)
-- ===== StreamFuserModel.partsOf(I)I =====
abbrev tX12_partsOf : List (Nat × sf_E) := [(0, (.iload_n 0, 1, 0, .null, [], [])), (1, (.lookupswitch 161 #[(37, 157), (42, 157), (43, 157), (47, 157), (63, 157), (99, 159), (100, 157), (105, 155), (107, 157), (108, 157), (114, 155), (115, 155), (116, 157), (117, 155), (118, 155), (119, 157), (120, 159), (122, 159)], 156, 162, .null, [((37), 158), ((42), 158), ((43), 158), ((47), 158), ((63), 158), ((99), 160), ((100), 158), ((105), 156), ((107), 158), ((108), 158), ((114), 156), ((115), 156), ((116), 158), ((117), 156), ((118), 156), ((119), 158), ((120), 160), ((122), 160)], [])), (156, (.iconst 0, 157, 0, .int (0), [], [])), (157, (.ireturn, 158, 0, .null, [], [])), (158, (.iconst 1, 159, 0, .int (1), [], [])), (159, (.ireturn, 160, 0, .null, [], [])), (160, (.iconst 2, 161, 0, .int (2), [], [])), (161, (.ireturn, 162, 0, .null, [], [])), (162, (.iconst (-1), 163, 0, .int (-1), [], [])), (163, (.ireturn, 164, 0, .null, [], []))]
noncomputable abbrev jX12_partsOf : List (Nat × sf_J (Int32 × sf_S)) := []
noncomputable def dX12_partsOf (x0 : Int32) (σ : sf_S) : Option (Int32 × sf_S) :=
  if x0 = (37 : Int32) then
    some ((1 : Int32), σ)
  else
  if x0 = (42 : Int32) then
    some ((1 : Int32), σ)
  else
  if x0 = (43 : Int32) then
    some ((1 : Int32), σ)
  else
  if x0 = (47 : Int32) then
    some ((1 : Int32), σ)
  else
  if x0 = (63 : Int32) then
    some ((1 : Int32), σ)
  else
  if x0 = (99 : Int32) then
    some ((2 : Int32), σ)
  else
  if x0 = (100 : Int32) then
    some ((1 : Int32), σ)
  else
  if x0 = (105 : Int32) then
    some ((0 : Int32), σ)
  else
  if x0 = (107 : Int32) then
    some ((1 : Int32), σ)
  else
  if x0 = (108 : Int32) then
    some ((1 : Int32), σ)
  else
  if x0 = (114 : Int32) then
    some ((0 : Int32), σ)
  else
  if x0 = (115 : Int32) then
    some ((0 : Int32), σ)
  else
  if x0 = (116 : Int32) then
    some ((1 : Int32), σ)
  else
  if x0 = (117 : Int32) then
    some ((0 : Int32), σ)
  else
  if x0 = (118 : Int32) then
    some ((0 : Int32), σ)
  else
  if x0 = (119 : Int32) then
    some ((1 : Int32), σ)
  else
  if x0 = (120 : Int32) then
    some ((2 : Int32), σ)
  else
  if x0 = (122 : Int32) then
    some ((2 : Int32), σ)
  else
    some ((-1 : Int32), σ)
noncomputable abbrev gX12_partsOf (av : List Value) (σ : sf_S) : Option (Int32 × sf_S) := match av with
  | [.int x0] => dX12_partsOf x0 σ
  | _ => none
set_option maxRecDepth 100000 in
set_option maxHeartbeats 4000000 in
theorem rX12_partsOf {Wt : Nat → sf_L → List Value → sf_S → Prop} {Post : (Int32 × sf_S) → Prop} (hs : sf_Snd Wt sf_layM sf_hI jX12_partsOf tX12_partsOf Post) (hm : sf_mono Wt) : ∀ av σ u, gX12_partsOf av σ = some u → Post u → (∀ ad, (lg_sl (av.map (sf_v ad))).length ≤ 1) ∧ Wt 0 (sf_ent 0 av) [] σ := by
  intro av σ u h hp
  unfold gX12_partsOf at h
  split at h
  · rename_i x0
    refine ⟨fun ad => Nat.le_of_ble_eq_true rfl, ?_⟩
    exact sf_run_ok hs sf_sm_nil 15 0 _ _ σ u h hp
  · cases h
theorem kX12_partsOf (l : Launch) : sf_C l sf_layM yX12_partsOf cX12_partsOf 1 (some .int) (sf_rm 1 100) (fun av σ => (gX12_partsOf av σ).map sf_vI) :=
  sf_met (tab := tX12_partsOf) (J := jX12_partsOf) (fl := sf_fl12) (cl := sf_cl12) (by decide +kernel) ⟨rfl, rfl⟩ sf_RH_I (by decide +kernel) sf_fl12_ok sf_cl12_ok
    (sf_JO_nil)
    (fun Wt Post hs hm => rX12_partsOf hs hm)
-- ===== StreamFuserModel.wants(I)V =====
abbrev tX12_wants : List (Nat × sf_E) := [(0, (.aload_n 0, 1, 0, .null, [], [])), (1, (.getfield 25, 4, 0, .null, [], [(10, 7)])), (4, (.aload_n 0, 5, 0, .null, [], [])), (5, (.getfield 160, 8, 0, .null, [], [(10, 8)])), (8, (.iload_n 1, 9, 0, .null, [], [])), (9, (.iastore, 10, 0, .null, [], [])), (10, (.aload_n 0, 11, 0, .null, [], [])), (11, (.dup, 12, 0, .null, [], [])), (12, (.getfield 160, 15, 0, .null, [], [(10, 8)])), (15, (.iconst 1, 16, 0, .int (1), [], [])), (16, (.iadd, 17, 0, .null, [], [])), (17, (.putfield 160, 20, 0, .null, [], [(10, 8)])), (20, (.return_, 21, 0, .null, [], []))]
noncomputable abbrev jX12_wants : List (Nat × sf_J sf_S) := []
noncomputable def dX12_wants (x1 : Int32) (σ : sf_S) : Option sf_S :=
  let v1 := (σ 0 8)
  if sf_in v1 160 then
    let s2 := sf_up σ 6 v1.toNatClampNeg x1
    let s3 := sf_up s2 0 8 ((s2 0 8) + (1 : Int32))
    some s3
  else
    none
noncomputable abbrev gX12_wants (av : List Value) (σ : sf_S) : Option sf_S := match av with
  | [.ref q, .int x1] => (match sf_rv [0] q with | true => dX12_wants x1 σ | false => none)
  | _ => none
set_option maxRecDepth 100000 in
set_option maxHeartbeats 4000000 in
theorem rX12_wants {Wt : Nat → sf_L → List Value → sf_S → Prop} {Post : sf_S → Prop} (hs : sf_Snd Wt sf_layM sf_hV jX12_wants tX12_wants Post) (hm : sf_mono Wt) : ∀ av σ u, gX12_wants av σ = some u → Post u → (∀ ad, (lg_sl (av.map (sf_v ad))).length ≤ 2) ∧ Wt 0 (sf_ent 0 av) [] σ := by
  intro av σ u h hp
  unfold gX12_wants at h
  split at h
  · rename_i q x1
    split at h
    · rename_i hq
      have hq : q = 0 := by simpa using sf_rv_mem hq
      subst hq
      refine ⟨fun ad => Nat.le_of_ble_eq_true rfl, ?_⟩
      exact sf_run_ok hs sf_sm_nil 18 0 _ _ σ u h hp
    · cases h
  · cases h
theorem kX12_wants (l : Launch) : sf_C l sf_layM yX12_wants cX12_wants 2 none (sf_rm 1 100) (fun av σ => (gX12_wants av σ).map sf_vV) :=
  sf_met (tab := tX12_wants) (J := jX12_wants) (fl := sf_fl12) (cl := sf_cl12) (by decide +kernel) ⟨rfl, rfl⟩ sf_RH_V (by decide +kernel) sf_fl12_ok sf_cl12_ok
    (sf_JO_nil)
    (fun Wt Post hs hm => rX12_wants hs hm)
-- ===== StreamFuserModel.wantsBehind(II)V =====
abbrev tX12_wantsBehind : List (Nat × sf_E) := [(0, (.iload_n 1, 1, 0, .null, [], [])), (1, (.invokestatic 163, 4, 0, .null, [], [])), (4, (.istore_n 3, 5, 0, .null, [], [])), (5, (.iconst 0, 6, 0, .int (0), [], [])), (6, (.istore 4, 8, 0, .null, [], [])), (8, (.iload 4, 10, 0, .null, [], [])), (10, (.iload_n 3, 11, 0, .null, [], [])), (11, (.if_icmp .ge 30, 14, 41, .null, [], [])), (14, (.aload_n 0, 15, 0, .null, [], [])), (15, (.iload_n 1, 16, 0, .null, [], [])), (16, (.bipush 120, 18, 0, .int (120), [], [])), (18, (.if_icmp .ne 13, 21, 31, .null, [], [])), (21, (.iload 4, 23, 0, .null, [], [])), (23, (.iconst 1, 24, 0, .int (1), [], [])), (24, (.if_icmp .ne 7, 27, 31, .null, [], [])), (27, (.iconst 1, 28, 0, .int (1), [], [])), (28, (.goto 4, 31, 32, .null, [], [])), (31, (.iload_n 2, 32, 0, .null, [], [])), (32, (.invokevirtual 166, 35, 0, .null, [], [])), (35, (.iinc 4 1, 38, 0, .int (1), [], [])), (38, (.goto (-30), 41, 8, .null, [], [])), (41, (.iload_n 1, 42, 0, .null, [], [])), (42, (.lookupswitch 186 #[(37, 135), (42, 151), (43, 151), (47, 151), (63, 151), (100, 143), (105, 122), (107, 135), (108, 168), (114, 122), (115, 159), (116, 143), (119, 151), (122, 177)], 164, 228, .null, [((37), 177), ((42), 193), ((43), 193), ((47), 193), ((63), 193), ((100), 185), ((105), 164), ((107), 177), ((108), 210), ((114), 164), ((115), 201), ((116), 185), ((119), 193), ((122), 219)], [])), (164, (.aload_n 0, 165, 0, .null, [], [])), (165, (.iconst 3, 166, 0, .int (3), [], [])), (166, (.invokevirtual 166, 169, 0, .null, [], [])), (169, (.aload_n 0, 170, 0, .null, [], [])), (170, (.iconst 2, 171, 0, .int (2), [], [])), (171, (.invokevirtual 166, 174, 0, .null, [], [])), (174, (.goto 54, 177, 228, .null, [], [])), (177, (.aload_n 0, 178, 0, .null, [], [])), (178, (.iconst 4, 179, 0, .int (4), [], [])), (179, (.invokevirtual 166, 182, 0, .null, [], [])), (182, (.goto 46, 185, 228, .null, [], [])), (185, (.aload_n 0, 186, 0, .null, [], [])), (186, (.iconst 5, 187, 0, .int (5), [], [])), (187, (.invokevirtual 166, 190, 0, .null, [], [])), (190, (.goto 38, 193, 228, .null, [], [])), (193, (.aload_n 0, 194, 0, .null, [], [])), (194, (.iconst 2, 195, 0, .int (2), [], [])), (195, (.invokevirtual 166, 198, 0, .null, [], [])), (198, (.goto 30, 201, 228, .null, [], [])), (201, (.aload_n 0, 202, 0, .null, [], [])), (202, (.bipush 8, 204, 0, .int (8), [], [])), (204, (.invokevirtual 166, 207, 0, .null, [], [])), (207, (.goto 21, 210, 228, .null, [], [])), (210, (.aload_n 0, 211, 0, .null, [], [])), (211, (.bipush 9, 213, 0, .int (9), [], [])), (213, (.invokevirtual 166, 216, 0, .null, [], [])), (216, (.goto 12, 219, 228, .null, [], [])), (219, (.aload_n 0, 220, 0, .null, [], [])), (220, (.bipush 7, 222, 0, .int (7), [], [])), (222, (.invokevirtual 166, 225, 0, .null, [], [])), (225, (.goto 3, 228, 228, .null, [], [])), (228, (.iload_n 1, 229, 0, .null, [], [])), (229, (.bipush 63, 231, 0, .int (63), [], [])), (231, (.if_icmp .eq 9, 234, 240, .null, [], [])), (234, (.iload_n 1, 235, 0, .null, [], [])), (235, (.bipush 119, 237, 0, .int (119), [], [])), (237, (.if_icmp .ne 9, 240, 246, .null, [], [])), (240, (.aload_n 0, 241, 0, .null, [], [])), (241, (.bipush 6, 243, 0, .int (6), [], [])), (243, (.invokevirtual 166, 246, 0, .null, [], [])), (246, (.return_, 247, 0, .null, [], []))]
noncomputable abbrev jX12_wantsBehind : List (Nat × sf_J sf_S) := [(1, sf_jI sf_layM [] 1 gX12_partsOf), (32, sf_jV sf_layM [10] 2 gX12_wants), (166, sf_jV sf_layM [10] 2 gX12_wants), (171, sf_jV sf_layM [10] 2 gX12_wants), (179, sf_jV sf_layM [10] 2 gX12_wants), (187, sf_jV sf_layM [10] 2 gX12_wants), (195, sf_jV sf_layM [10] 2 gX12_wants), (204, sf_jV sf_layM [10] 2 gX12_wants), (213, sf_jV sf_layM [10] 2 gX12_wants), (222, sf_jV sf_layM [10] 2 gX12_wants), (243, sf_jV sf_layM [10] 2 gX12_wants)]
abbrev wX12_wantsBehind_228 {ρ : Type} (k : Int32 → sf_S → Option ρ) : sf_M ρ := fun L st σ => sf_lda L 0 fun a0 => sf_eq a0 0 (sf_ldi L 1 fun x1 => sf_nil st (k x1 σ))
theorem wX12_wantsBehind_228_ok {ρ : Type} {Wt : Nat → sf_L → List Value → sf_S → Prop} {Post : ρ → Prop} (hm : sf_mono Wt) {k : Int32 → sf_S → Option ρ} (h : ∀ (x1 : Int32) (σ : sf_S) (u : ρ), k x1 σ = some u → Post u → Wt 228 [(0, some (.ref 0)), (1, some (.int x1))] [] σ) : sf_CK Wt Post 228 (wX12_wantsBehind_228 k) := by
  intro L st σ u hf hp
  unfold wX12_wantsBehind_228 at hf
  have hf0 := hf
  obtain ⟨a0, e0, hf1⟩ := sf_lda_inv hf0
  obtain ⟨rfl, hf2⟩ := sf_eq_inv hf1
  obtain ⟨x1, e1, hf3⟩ := sf_ldi_inv hf2
  obtain ⟨rfl, hz⟩ := sf_nil_inv hf3
  exact hm _ [(0, some (.ref _)), (1, some (.int x1))] _ _ _ (sf_le_ok (And.intro e0 (And.intro e1 trivial))) (h _ _ _ hz hp)
abbrev wX12_wantsBehind_8 {ρ : Type} (k : Int32 → Int32 → Int32 → Int32 → sf_S → Option ρ) : sf_M ρ := fun L st σ => sf_lda L 0 fun a0 => sf_eq a0 0 (sf_ldi L 1 fun x1 => sf_ldi L 2 fun x2 => sf_ldi L 3 fun x3 => sf_ldi L 4 fun x4 => sf_nil st (k x1 x2 x3 x4 σ))
theorem wX12_wantsBehind_8_ok {ρ : Type} {Wt : Nat → sf_L → List Value → sf_S → Prop} {Post : ρ → Prop} (hm : sf_mono Wt) {k : Int32 → Int32 → Int32 → Int32 → sf_S → Option ρ} (h : ∀ (x1 : Int32) (x2 : Int32) (x3 : Int32) (x4 : Int32) (σ : sf_S) (u : ρ), k x1 x2 x3 x4 σ = some u → Post u → Wt 8 [(0, some (.ref 0)), (1, some (.int x1)), (2, some (.int x2)), (3, some (.int x3)), (4, some (.int x4))] [] σ) : sf_CK Wt Post 8 (wX12_wantsBehind_8 k) := by
  intro L st σ u hf hp
  unfold wX12_wantsBehind_8 at hf
  have hf0 := hf
  obtain ⟨a0, e0, hf1⟩ := sf_lda_inv hf0
  obtain ⟨rfl, hf2⟩ := sf_eq_inv hf1
  obtain ⟨x1, e1, hf3⟩ := sf_ldi_inv hf2
  obtain ⟨x2, e2, hf4⟩ := sf_ldi_inv hf3
  obtain ⟨x3, e3, hf5⟩ := sf_ldi_inv hf4
  obtain ⟨x4, e4, hf6⟩ := sf_ldi_inv hf5
  obtain ⟨rfl, hz⟩ := sf_nil_inv hf6
  exact hm _ [(0, some (.ref _)), (1, some (.int x1)), (2, some (.int x2)), (3, some (.int x3)), (4, some (.int x4))] _ _ _ (sf_le_ok (And.intro e0 (And.intro e1 (And.intro e2 (And.intro e3 (And.intro e4 trivial)))))) (h _ _ _ _ _ _ hz hp)
noncomputable def dX12_wantsBehind_228 (x1 : Int32) (σ : sf_S) : Option sf_S :=
  if x1 = (63 : Int32) then
    (dX12_wants (6 : Int32) σ).bind fun u1 =>
    some u1
  else
    if ¬ x1 = (119 : Int32) then
      some σ
    else
      (dX12_wants (6 : Int32) σ).bind fun u2 =>
      some u2
set_option maxRecDepth 100000 in
set_option maxHeartbeats 4000000 in
theorem rX12_wantsBehind_228 {Wt : Nat → sf_L → List Value → sf_S → Prop} {Post : sf_S → Prop} (hs : sf_Snd Wt sf_layM sf_hV jX12_wantsBehind tX12_wantsBehind Post) (hm : sf_mono Wt) : sf_CK Wt Post 228 (wX12_wantsBehind_228 (dX12_wantsBehind_228)) := by
  refine wX12_wantsBehind_228_ok hm ?_
  intro x1 σ u h hp
  exact sf_run_ok hs sf_sm_nil 69 228 _ _ σ u h hp
noncomputable def dX12_wantsBehind_8 : Nat → Int32 → Int32 → Int32 → Int32 → sf_S → Option sf_S
  | 0 => fun _ _ _ _ _ => none
  | n + 1 => fun x1 x2 x3 x4 σ =>
    if x3 ≤ x4 then
      if x1 = (37 : Int32) then
        (dX12_wants (4 : Int32) σ).bind fun u1 =>
        dX12_wantsBehind_228 x1 u1
      else
      if x1 = (42 : Int32) then
        (dX12_wants (2 : Int32) σ).bind fun u2 =>
        dX12_wantsBehind_228 x1 u2
      else
      if x1 = (43 : Int32) then
        (dX12_wants (2 : Int32) σ).bind fun u3 =>
        dX12_wantsBehind_228 x1 u3
      else
      if x1 = (47 : Int32) then
        (dX12_wants (2 : Int32) σ).bind fun u4 =>
        dX12_wantsBehind_228 x1 u4
      else
      if x1 = (63 : Int32) then
        (dX12_wants (2 : Int32) σ).bind fun u5 =>
        dX12_wantsBehind_228 x1 u5
      else
      if x1 = (100 : Int32) then
        (dX12_wants (5 : Int32) σ).bind fun u6 =>
        dX12_wantsBehind_228 x1 u6
      else
      if x1 = (105 : Int32) then
        (dX12_wants (3 : Int32) σ).bind fun u7 =>
        (dX12_wants (2 : Int32) u7).bind fun u8 =>
        dX12_wantsBehind_228 x1 u8
      else
      if x1 = (107 : Int32) then
        (dX12_wants (4 : Int32) σ).bind fun u9 =>
        dX12_wantsBehind_228 x1 u9
      else
      if x1 = (108 : Int32) then
        (dX12_wants (9 : Int32) σ).bind fun u10 =>
        dX12_wantsBehind_228 x1 u10
      else
      if x1 = (114 : Int32) then
        (dX12_wants (3 : Int32) σ).bind fun u11 =>
        (dX12_wants (2 : Int32) u11).bind fun u12 =>
        dX12_wantsBehind_228 x1 u12
      else
      if x1 = (115 : Int32) then
        (dX12_wants (8 : Int32) σ).bind fun u13 =>
        dX12_wantsBehind_228 x1 u13
      else
      if x1 = (116 : Int32) then
        (dX12_wants (5 : Int32) σ).bind fun u14 =>
        dX12_wantsBehind_228 x1 u14
      else
      if x1 = (119 : Int32) then
        (dX12_wants (2 : Int32) σ).bind fun u15 =>
        dX12_wantsBehind_228 x1 u15
      else
      if x1 = (122 : Int32) then
        (dX12_wants (7 : Int32) σ).bind fun u16 =>
        dX12_wantsBehind_228 x1 u16
      else
        dX12_wantsBehind_228 x1 σ
    else
      if ¬ x1 = (120 : Int32) then
        (dX12_wants x2 σ).bind fun u17 =>
        dX12_wantsBehind_8 n x1 x2 x3 (x4 + (1 : Int32)) u17
      else
        if ¬ x4 = (1 : Int32) then
          (dX12_wants x2 σ).bind fun u18 =>
          dX12_wantsBehind_8 n x1 x2 x3 (x4 + (1 : Int32)) u18
        else
          (dX12_wants (1 : Int32) σ).bind fun u19 =>
          dX12_wantsBehind_8 n x1 x2 x3 (x4 + (1 : Int32)) u19
set_option maxRecDepth 100000 in
set_option maxHeartbeats 4000000 in
theorem rX12_wantsBehind_8 {Wt : Nat → sf_L → List Value → sf_S → Prop} {Post : sf_S → Prop} (hs : sf_Snd Wt sf_layM sf_hV jX12_wantsBehind tX12_wantsBehind Post) (hm : sf_mono Wt) : ∀ n : Nat, sf_CK Wt Post 8 (wX12_wantsBehind_8 (dX12_wantsBehind_8 n)) := by
  intro n
  induction n with
  | zero => exact wX12_wantsBehind_8_ok hm (fun x1 x2 x3 x4 σ u h _ => by simp [dX12_wantsBehind_8] at h)
  | succ n ih =>
    refine wX12_wantsBehind_8_ok hm ?_
    intro x1 x2 x3 x4 σ u h hp
    exact sf_run_ok hs (sf_sm_cons ih (sf_sm_cons (rX12_wantsBehind_228 hs hm) sf_sm_nil)) 69 8 _ _ σ u h hp
noncomputable def dX12_wantsBehind (x1 : Int32) (x2 : Int32) (σ : sf_S) : Option sf_S :=
  (dX12_partsOf x1 σ).bind fun u1 =>
  dX12_wantsBehind_8 sf_F x1 x2 u1.1 (0 : Int32) u1.2
noncomputable abbrev gX12_wantsBehind (av : List Value) (σ : sf_S) : Option sf_S := match av with
  | [.ref q, .int x1, .int x2] => (match sf_rv [0] q with | true => dX12_wantsBehind x1 x2 σ | false => none)
  | _ => none
set_option maxRecDepth 100000 in
set_option maxHeartbeats 4000000 in
theorem rX12_wantsBehind {Wt : Nat → sf_L → List Value → sf_S → Prop} {Post : sf_S → Prop} (hs : sf_Snd Wt sf_layM sf_hV jX12_wantsBehind tX12_wantsBehind Post) (hm : sf_mono Wt) : ∀ av σ u, gX12_wantsBehind av σ = some u → Post u → (∀ ad, (lg_sl (av.map (sf_v ad))).length ≤ 5) ∧ Wt 0 (sf_ent 0 av) [] σ := by
  intro av σ u h hp
  unfold gX12_wantsBehind at h
  split at h
  · rename_i q x1 x2
    split at h
    · rename_i hq
      have hq : q = 0 := by simpa using sf_rv_mem hq
      subst hq
      refine ⟨fun ad => Nat.le_of_ble_eq_true rfl, ?_⟩
      exact sf_run_ok hs (sf_sm_cons (rX12_wantsBehind_8 hs hm sf_F) sf_sm_nil) 69 0 _ _ σ u h hp
    · cases h
  · cases h
theorem kX12_wantsBehind (l : Launch) : sf_C l sf_layM yX12_wantsBehind cX12_wantsBehind 5 none (sf_rm 2 121) (fun av σ => (gX12_wantsBehind av σ).map sf_vV) :=
  sf_met (tab := tX12_wantsBehind) (J := jX12_wantsBehind) (fl := sf_fl12) (cl := sf_cl12) (by decide +kernel) ⟨rfl, rfl⟩ sf_RH_V (by decide +kernel) sf_fl12_ok sf_cl12_ok
    (sf_JO_cons (sf_je_S (n := 1) (tv := sf_vI) (kX12_partsOf l) mwX12_partsOf (by decide +kernel : decode cX12_wantsBehind 1 = .ok (.invokestatic 163, 3)) wt_1431 wt_1432 (by decide +kernel) (sf_RM_of (by omega) (by omega))) (sf_JO_cons (sf_je_V (n := 2) (cs := [10]) (tv := sf_vV) (kX12_wants l) mwX12_wants (by decide +kernel : decode cX12_wantsBehind 32 = .ok (.invokevirtual 166, 3)) wt_1438 wt_1440 wt_88 (by decide +kernel) (by decide) (by decide) (List.forall_mem_cons.mpr ⟨⟨_, _, rfl⟩, fun _ h => absurd h List.not_mem_nil⟩) (sf_RM_of (by omega) (by omega))) (sf_JO_cons (sf_je_V (n := 2) (cs := [10]) (tv := sf_vV) (kX12_wants l) mwX12_wants (by decide +kernel : decode cX12_wantsBehind 166 = .ok (.invokevirtual 166, 3)) wt_1438 wt_1440 wt_88 (by decide +kernel) (by decide) (by decide) (List.forall_mem_cons.mpr ⟨⟨_, _, rfl⟩, fun _ h => absurd h List.not_mem_nil⟩) (sf_RM_of (by omega) (by omega))) (sf_JO_cons (sf_je_V (n := 2) (cs := [10]) (tv := sf_vV) (kX12_wants l) mwX12_wants (by decide +kernel : decode cX12_wantsBehind 171 = .ok (.invokevirtual 166, 3)) wt_1438 wt_1440 wt_88 (by decide +kernel) (by decide) (by decide) (List.forall_mem_cons.mpr ⟨⟨_, _, rfl⟩, fun _ h => absurd h List.not_mem_nil⟩) (sf_RM_of (by omega) (by omega))) (sf_JO_cons (sf_je_V (n := 2) (cs := [10]) (tv := sf_vV) (kX12_wants l) mwX12_wants (by decide +kernel : decode cX12_wantsBehind 179 = .ok (.invokevirtual 166, 3)) wt_1438 wt_1440 wt_88 (by decide +kernel) (by decide) (by decide) (List.forall_mem_cons.mpr ⟨⟨_, _, rfl⟩, fun _ h => absurd h List.not_mem_nil⟩) (sf_RM_of (by omega) (by omega))) (sf_JO_cons (sf_je_V (n := 2) (cs := [10]) (tv := sf_vV) (kX12_wants l) mwX12_wants (by decide +kernel : decode cX12_wantsBehind 187 = .ok (.invokevirtual 166, 3)) wt_1438 wt_1440 wt_88 (by decide +kernel) (by decide) (by decide) (List.forall_mem_cons.mpr ⟨⟨_, _, rfl⟩, fun _ h => absurd h List.not_mem_nil⟩) (sf_RM_of (by omega) (by omega))) (sf_JO_cons (sf_je_V (n := 2) (cs := [10]) (tv := sf_vV) (kX12_wants l) mwX12_wants (by decide +kernel : decode cX12_wantsBehind 195 = .ok (.invokevirtual 166, 3)) wt_1438 wt_1440 wt_88 (by decide +kernel) (by decide) (by decide) (List.forall_mem_cons.mpr ⟨⟨_, _, rfl⟩, fun _ h => absurd h List.not_mem_nil⟩) (sf_RM_of (by omega) (by omega))) (sf_JO_cons (sf_je_V (n := 2) (cs := [10]) (tv := sf_vV) (kX12_wants l) mwX12_wants (by decide +kernel : decode cX12_wantsBehind 204 = .ok (.invokevirtual 166, 3)) wt_1438 wt_1440 wt_88 (by decide +kernel) (by decide) (by decide) (List.forall_mem_cons.mpr ⟨⟨_, _, rfl⟩, fun _ h => absurd h List.not_mem_nil⟩) (sf_RM_of (by omega) (by omega))) (sf_JO_cons (sf_je_V (n := 2) (cs := [10]) (tv := sf_vV) (kX12_wants l) mwX12_wants (by decide +kernel : decode cX12_wantsBehind 213 = .ok (.invokevirtual 166, 3)) wt_1438 wt_1440 wt_88 (by decide +kernel) (by decide) (by decide) (List.forall_mem_cons.mpr ⟨⟨_, _, rfl⟩, fun _ h => absurd h List.not_mem_nil⟩) (sf_RM_of (by omega) (by omega))) (sf_JO_cons (sf_je_V (n := 2) (cs := [10]) (tv := sf_vV) (kX12_wants l) mwX12_wants (by decide +kernel : decode cX12_wantsBehind 222 = .ok (.invokevirtual 166, 3)) wt_1438 wt_1440 wt_88 (by decide +kernel) (by decide) (by decide) (List.forall_mem_cons.mpr ⟨⟨_, _, rfl⟩, fun _ h => absurd h List.not_mem_nil⟩) (sf_RM_of (by omega) (by omega))) (sf_JO_cons (sf_je_V (n := 2) (cs := [10]) (tv := sf_vV) (kX12_wants l) mwX12_wants (by decide +kernel : decode cX12_wantsBehind 243 = .ok (.invokevirtual 166, 3)) wt_1438 wt_1440 wt_88 (by decide +kernel) (by decide) (by decide) (List.forall_mem_cons.mpr ⟨⟨_, _, rfl⟩, fun _ h => absurd h List.not_mem_nil⟩) (sf_RM_of (by omega) (by omega))) (sf_JO_nil))))))))))))
    (fun Wt Post hs hm => rX12_wantsBehind hs hm)
-- ===== StreamFuserModel.takesLetter(II)Z =====
abbrev tX12_takesLetter : List (Nat × sf_E) := [(0, (.iload_n 1, 1, 0, .null, [], [])), (1, (.invokestatic 163, 4, 0, .null, [], [])), (4, (.iconst (-1), 5, 0, .int (-1), [], [])), (5, (.if_icmp .eq 19, 8, 24, .null, [], [])), (8, (.iload_n 1, 9, 0, .null, [], [])), (9, (.bipush 117, 11, 0, .int (117), [], [])), (11, (.if_icmp .eq 9, 14, 20, .null, [], [])), (14, (.iload_n 1, 15, 0, .null, [], [])), (15, (.bipush 118, 17, 0, .int (118), [], [])), (17, (.if_icmp .ne 9, 20, 26, .null, [], [])), (20, (.iload_n 2, 21, 0, .null, [], [])), (21, (.ifCond .ne 5, 24, 26, .null, [], [])), (24, (.iconst 0, 25, 0, .int (0), [], [])), (25, (.ireturn, 26, 0, .null, [], [])), (26, (.aload_n 0, 27, 0, .null, [], [])), (27, (.dup, 28, 0, .null, [], [])), (28, (.getfield 160, 31, 0, .null, [], [(10, 8)])), (31, (.iconst 1, 32, 0, .int (1), [], [])), (32, (.isub, 33, 0, .null, [], [])), (33, (.putfield 160, 36, 0, .null, [], [(10, 8)])), (36, (.aload_n 0, 37, 0, .null, [], [])), (37, (.getfield 28, 40, 0, .null, [], [(10, 12)])), (40, (.aload_n 0, 41, 0, .null, [], [])), (41, (.getfield 169, 44, 0, .null, [], [(10, 16)])), (44, (.iload_n 1, 45, 0, .null, [], [])), (45, (.iastore, 46, 0, .null, [], [])), (46, (.aload_n 0, 47, 0, .null, [], [])), (47, (.getfield 31, 50, 0, .null, [], [(10, 13)])), (50, (.aload_n 0, 51, 0, .null, [], [])), (51, (.getfield 169, 54, 0, .null, [], [(10, 16)])), (54, (.iconst (-1), 55, 0, .int (-1), [], [])), (55, (.iastore, 56, 0, .null, [], [])), (56, (.aload_n 0, 57, 0, .null, [], [])), (57, (.getfield 34, 60, 0, .null, [], [(10, 14)])), (60, (.aload_n 0, 61, 0, .null, [], [])), (61, (.getfield 169, 64, 0, .null, [], [(10, 16)])), (64, (.iconst 0, 65, 0, .int (0), [], [])), (65, (.iastore, 66, 0, .null, [], [])), (66, (.aload_n 0, 67, 0, .null, [], [])), (67, (.getfield 37, 70, 0, .null, [], [(10, 15)])), (70, (.aload_n 0, 71, 0, .null, [], [])), (71, (.getfield 169, 74, 0, .null, [], [(10, 16)])), (74, (.iconst 0, 75, 0, .int (0), [], [])), (75, (.iastore, 76, 0, .null, [], [])), (76, (.aload_n 0, 77, 0, .null, [], [])), (77, (.dup, 78, 0, .null, [], [])), (78, (.getfield 169, 81, 0, .null, [], [(10, 16)])), (81, (.iconst 1, 82, 0, .int (1), [], [])), (82, (.iadd, 83, 0, .null, [], [])), (83, (.putfield 169, 86, 0, .null, [], [(10, 16)])), (86, (.aload_n 0, 87, 0, .null, [], [])), (87, (.iload_n 1, 88, 0, .null, [], [])), (88, (.iload_n 2, 89, 0, .null, [], [])), (89, (.invokevirtual 172, 92, 0, .null, [], [])), (92, (.iconst 1, 93, 0, .int (1), [], [])), (93, (.ireturn, 94, 0, .null, [], []))]
noncomputable abbrev jX12_takesLetter : List (Nat × sf_J (Int32 × sf_S)) := [(1, sf_jI sf_layM [] 1 gX12_partsOf), (89, sf_jV sf_layM [10] 3 gX12_wantsBehind)]
abbrev wX12_takesLetter_26 {ρ : Type} (k : Int32 → Int32 → sf_S → Option ρ) : sf_M ρ := fun L st σ => sf_lda L 0 fun a0 => sf_eq a0 0 (sf_ldi L 1 fun x1 => sf_ldi L 2 fun x2 => sf_nil st (k x1 x2 σ))
theorem wX12_takesLetter_26_ok {ρ : Type} {Wt : Nat → sf_L → List Value → sf_S → Prop} {Post : ρ → Prop} (hm : sf_mono Wt) {k : Int32 → Int32 → sf_S → Option ρ} (h : ∀ (x1 : Int32) (x2 : Int32) (σ : sf_S) (u : ρ), k x1 x2 σ = some u → Post u → Wt 26 [(0, some (.ref 0)), (1, some (.int x1)), (2, some (.int x2))] [] σ) : sf_CK Wt Post 26 (wX12_takesLetter_26 k) := by
  intro L st σ u hf hp
  unfold wX12_takesLetter_26 at hf
  have hf0 := hf
  obtain ⟨a0, e0, hf1⟩ := sf_lda_inv hf0
  obtain ⟨rfl, hf2⟩ := sf_eq_inv hf1
  obtain ⟨x1, e1, hf3⟩ := sf_ldi_inv hf2
  obtain ⟨x2, e2, hf4⟩ := sf_ldi_inv hf3
  obtain ⟨rfl, hz⟩ := sf_nil_inv hf4
  exact hm _ [(0, some (.ref _)), (1, some (.int x1)), (2, some (.int x2))] _ _ _ (sf_le_ok (And.intro e0 (And.intro e1 (And.intro e2 trivial)))) (h _ _ _ _ hz hp)
noncomputable def dX12_takesLetter_26 (x1 : Int32) (x2 : Int32) (σ : sf_S) : Option (Int32 × sf_S) :=
  let s1 := sf_up σ 0 8 ((σ 0 8) - (1 : Int32))
  let v2 := (s1 0 16)
  if sf_in v2 40 then
    let s3 := sf_up s1 7 v2.toNatClampNeg x1
    let v4 := (s3 0 16)
    if sf_in v4 40 then
      let s5 := sf_up s3 8 v4.toNatClampNeg (-1 : Int32)
      let v6 := (s5 0 16)
      if sf_in v6 40 then
        let s7 := sf_up s5 9 v6.toNatClampNeg (0 : Int32)
        let v8 := (s7 0 16)
        if sf_in v8 40 then
          let s9 := sf_up s7 10 v8.toNatClampNeg (0 : Int32)
          let s10 := sf_up s9 0 16 ((s9 0 16) + (1 : Int32))
          (dX12_wantsBehind x1 x2 s10).bind fun u11 =>
          some ((1 : Int32), u11)
        else
          none
      else
        none
    else
      none
  else
    none
set_option maxRecDepth 100000 in
set_option maxHeartbeats 4000000 in
theorem rX12_takesLetter_26 {Wt : Nat → sf_L → List Value → sf_S → Prop} {Post : (Int32 × sf_S) → Prop} (hs : sf_Snd Wt sf_layM sf_hZ jX12_takesLetter tX12_takesLetter Post) (hm : sf_mono Wt) : sf_CK Wt Post 26 (wX12_takesLetter_26 (dX12_takesLetter_26)) := by
  refine wX12_takesLetter_26_ok hm ?_
  intro x1 x2 σ u h hp
  exact sf_run_ok hs sf_sm_nil 61 26 _ _ σ u h hp
noncomputable def dX12_takesLetter (x1 : Int32) (x2 : Int32) (σ : sf_S) : Option (Int32 × sf_S) :=
  (dX12_partsOf x1 σ).bind fun u1 =>
  if u1.1 = (-1 : Int32) then
    some ((0 : Int32), u1.2)
  else
    if x1 = (117 : Int32) then
      if ¬ x2 = 0 then
        dX12_takesLetter_26 x1 x2 u1.2
      else
        some ((0 : Int32), u1.2)
    else
      if ¬ x1 = (118 : Int32) then
        dX12_takesLetter_26 x1 x2 u1.2
      else
        if ¬ x2 = 0 then
          dX12_takesLetter_26 x1 x2 u1.2
        else
          some ((0 : Int32), u1.2)
noncomputable abbrev gX12_takesLetter (av : List Value) (σ : sf_S) : Option (Int32 × sf_S) := match av with
  | [.ref q, .int x1, .int x2] => (match sf_rv [0] q with | true => dX12_takesLetter x1 x2 σ | false => none)
  | _ => none
set_option maxRecDepth 100000 in
set_option maxHeartbeats 4000000 in
theorem rX12_takesLetter {Wt : Nat → sf_L → List Value → sf_S → Prop} {Post : (Int32 × sf_S) → Prop} (hs : sf_Snd Wt sf_layM sf_hZ jX12_takesLetter tX12_takesLetter Post) (hm : sf_mono Wt) : ∀ av σ u, gX12_takesLetter av σ = some u → Post u → (∀ ad, (lg_sl (av.map (sf_v ad))).length ≤ 3) ∧ Wt 0 (sf_ent 0 av) [] σ := by
  intro av σ u h hp
  unfold gX12_takesLetter at h
  split at h
  · rename_i q x1 x2
    split at h
    · rename_i hq
      have hq : q = 0 := by simpa using sf_rv_mem hq
      subst hq
      refine ⟨fun ad => Nat.le_of_ble_eq_true rfl, ?_⟩
      exact sf_run_ok hs (sf_sm_cons (rX12_takesLetter_26 hs hm) sf_sm_nil) 61 0 _ _ σ u h hp
    · cases h
  · cases h
theorem kX12_takesLetter (l : Launch) : sf_C l sf_layM yX12_takesLetter cX12_takesLetter 3 (some .boolean) (sf_rm 3 145) (fun av σ => (gX12_takesLetter av σ).map sf_vI) :=
  sf_met (tab := tX12_takesLetter) (J := jX12_takesLetter) (fl := sf_fl12) (cl := sf_cl12) (by decide +kernel) ⟨rfl, rfl⟩ sf_RH_Z (by decide +kernel) sf_fl12_ok sf_cl12_ok
    (sf_JO_cons (sf_je_S (n := 1) (tv := sf_vI) (kX12_partsOf l) mwX12_partsOf (by decide +kernel : decode cX12_takesLetter 1 = .ok (.invokestatic 163, 3)) wt_1431 wt_1432 (by decide +kernel) (sf_RM_of (by omega) (by omega))) (sf_JO_cons (sf_je_V (n := 3) (cs := [10]) (tv := sf_vV) (kX12_wantsBehind l) mwX12_wantsBehind (by decide +kernel : decode cX12_takesLetter 89 = .ok (.invokevirtual 172, 3)) wt_1434 wt_1436 wt_87 (by decide +kernel) (by decide) (by decide) (List.forall_mem_cons.mpr ⟨⟨_, _, rfl⟩, fun _ h => absurd h List.not_mem_nil⟩) (sf_RM_of (by omega) (by omega))) (sf_JO_nil)))
    (fun Wt Post hs hm => rX12_takesLetter hs hm)
-- ===== StreamFuserModel.takesNumber(II)Z =====
abbrev tX12_takesNumber : List (Nat × sf_E) := [(0, (.iload_n 1, 1, 0, .null, [], [])), (1, (.i2l, 2, 0, .null, [], [])), (2, (.ldc2_w 176, 5, 0, .long (48), [], [])), (5, (.ldc2_w 178, 8, 0, .long (57), [], [])), (8, (.invokestatic 132, 11, 0, .null, [], [])), (11, (.istore_n 3, 12, 0, .null, [], [])), (12, (.aload_n 0, 13, 0, .null, [], [])), (13, (.getfield 180, 16, 0, .null, [], [(10, 9)])), (16, (.ifCond .ne 52, 19, 68, .null, [], [])), (19, (.iload_n 1, 20, 0, .null, [], [])), (20, (.bipush 45, 22, 0, .int (45), [], [])), (22, (.if_icmp .ne 22, 25, 44, .null, [], [])), (25, (.iload_n 2, 26, 0, .null, [], [])), (26, (.iconst 4, 27, 0, .int (4), [], [])), (27, (.if_icmp .ge 17, 30, 44, .null, [], [])), (30, (.aload_n 0, 31, 0, .null, [], [])), (31, (.getfield 183, 34, 0, .null, [], [(10, 11)])), (34, (.ifCond .ne 10, 37, 44, .null, [], [])), (37, (.aload_n 0, 38, 0, .null, [], [])), (38, (.iconst 1, 39, 0, .int (1), [], [])), (39, (.putfield 183, 42, 0, .int 0, [], [(10, 11)])), (42, (.iconst 1, 43, 0, .int (1), [], [])), (43, (.ireturn, 44, 0, .null, [], [])), (44, (.iload_n 3, 45, 0, .null, [], [])), (45, (.ifCond .eq 21, 48, 66, .null, [], [])), (48, (.iload_n 1, 49, 0, .null, [], [])), (49, (.bipush 48, 51, 0, .int (48), [], [])), (51, (.if_icmp .ne 166, 54, 217, .null, [], [])), (54, (.aload_n 0, 55, 0, .null, [], [])), (55, (.getfield 183, 58, 0, .null, [], [(10, 11)])), (58, (.ifCond .ne 8, 61, 66, .null, [], [])), (61, (.iload_n 2, 62, 0, .null, [], [])), (62, (.iconst 4, 63, 0, .int (4), [], [])), (63, (.if_icmp .ne 154, 66, 217, .null, [], [])), (66, (.iconst 0, 67, 0, .int (0), [], [])), (67, (.ireturn, 68, 0, .null, [], [])), (68, (.iload_n 1, 69, 0, .null, [], [])), (69, (.bipush 59, 71, 0, .int (59), [], [])), (71, (.if_icmp .ne 116, 74, 187, .null, [], [])), (74, (.aload_n 0, 75, 0, .null, [], [])), (75, (.getfield 183, 78, 0, .null, [], [(10, 11)])), (78, (.ifCond .eq 12, 81, 90, .null, [], [])), (81, (.iconst 0, 82, 0, .int (0), [], [])), (82, (.aload_n 0, 83, 0, .null, [], [])), (83, (.getfield 187, 86, 0, .null, [], [(10, 10)])), (86, (.isub, 87, 0, .null, [], [])), (87, (.goto 7, 90, 94, .null, [], [])), (90, (.aload_n 0, 91, 0, .null, [], [])), (91, (.getfield 187, 94, 0, .null, [], [(10, 10)])), (94, (.istore 4, 96, 0, .null, [], [])), (96, (.aload_n 0, 97, 0, .null, [], [])), (97, (.getfield 34, 100, 0, .null, [], [(10, 14)])), (100, (.aload_n 0, 101, 0, .null, [], [])), (101, (.getfield 169, 104, 0, .null, [], [(10, 16)])), (104, (.iconst 1, 105, 0, .int (1), [], [])), (105, (.isub, 106, 0, .null, [], [])), (106, (.iload_n 2, 107, 0, .null, [], [])), (107, (.iconst 3, 108, 0, .int (3), [], [])), (108, (.if_icmp .ne 17, 111, 125, .null, [], [])), (111, (.aload_n 0, 112, 0, .null, [], [])), (112, (.getfield 34, 115, 0, .null, [], [(10, 14)])), (115, (.aload_n 0, 116, 0, .null, [], [])), (116, (.getfield 169, 119, 0, .null, [], [(10, 16)])), (119, (.iconst 1, 120, 0, .int (1), [], [])), (120, (.isub, 121, 0, .null, [], [])), (121, (.iaload, 122, 0, .null, [], [])), (122, (.goto 5, 125, 127, .null, [], [])), (125, (.iload 4, 127, 0, .null, [], [])), (127, (.iastore, 128, 0, .null, [], [])), (128, (.aload_n 0, 129, 0, .null, [], [])), (129, (.getfield 37, 132, 0, .null, [], [(10, 15)])), (132, (.aload_n 0, 133, 0, .null, [], [])), (133, (.getfield 169, 136, 0, .null, [], [(10, 16)])), (136, (.iconst 1, 137, 0, .int (1), [], [])), (137, (.isub, 138, 0, .null, [], [])), (138, (.iload_n 2, 139, 0, .null, [], [])), (139, (.iconst 3, 140, 0, .int (3), [], [])), (140, (.if_icmp .ne 8, 143, 148, .null, [], [])), (143, (.iload 4, 145, 0, .null, [], [])), (145, (.goto 14, 148, 159, .null, [], [])), (148, (.aload_n 0, 149, 0, .null, [], [])), (149, (.getfield 37, 152, 0, .null, [], [(10, 15)])), (152, (.aload_n 0, 153, 0, .null, [], [])), (153, (.getfield 169, 156, 0, .null, [], [(10, 16)])), (156, (.iconst 1, 157, 0, .int (1), [], [])), (157, (.isub, 158, 0, .null, [], [])), (158, (.iaload, 159, 0, .null, [], [])), (159, (.iastore, 160, 0, .null, [], [])), (160, (.aload_n 0, 161, 0, .null, [], [])), (161, (.dup, 162, 0, .null, [], [])), (162, (.getfield 160, 165, 0, .null, [], [(10, 8)])), (165, (.iconst 1, 166, 0, .int (1), [], [])), (166, (.isub, 167, 0, .null, [], [])), (167, (.putfield 160, 170, 0, .null, [], [(10, 8)])), (170, (.aload_n 0, 171, 0, .null, [], [])), (171, (.iconst 0, 172, 0, .int (0), [], [])), (172, (.putfield 180, 175, 0, .null, [], [(10, 9)])), (175, (.aload_n 0, 176, 0, .null, [], [])), (176, (.iconst 0, 177, 0, .int (0), [], [])), (177, (.putfield 187, 180, 0, .null, [], [(10, 10)])), (180, (.aload_n 0, 181, 0, .null, [], [])), (181, (.iconst 0, 182, 0, .int (0), [], [])), (182, (.putfield 183, 185, 0, .int 0, [], [(10, 11)])), (185, (.iconst 1, 186, 0, .int (1), [], [])), (186, (.ireturn, 187, 0, .null, [], [])), (187, (.iload_n 3, 188, 0, .null, [], [])), (188, (.ifCond .eq 27, 191, 215, .null, [], [])), (191, (.aload_n 0, 192, 0, .null, [], [])), (192, (.getfield 187, 195, 0, .null, [], [(10, 10)])), (195, (.ifCond .eq 20, 198, 215, .null, [], [])), (198, (.aload_n 0, 199, 0, .null, [], [])), (199, (.getfield 180, 202, 0, .null, [], [(10, 9)])), (202, (.iload_n 2, 203, 0, .null, [], [])), (203, (.iconst 5, 204, 0, .int (5), [], [])), (204, (.if_icmp .ne 7, 207, 211, .null, [], [])), (207, (.iconst 2, 208, 0, .int (2), [], [])), (208, (.goto 4, 211, 212, .null, [], [])), (211, (.iconst 4, 212, 0, .int (4), [], [])), (212, (.if_icmp .ne 5, 215, 217, .null, [], [])), (215, (.iconst 0, 216, 0, .int (0), [], [])), (216, (.ireturn, 217, 0, .null, [], [])), (217, (.aload_n 0, 218, 0, .null, [], [])), (218, (.bipush 10, 220, 0, .int (10), [], [])), (220, (.aload_n 0, 221, 0, .null, [], [])), (221, (.getfield 187, 224, 0, .null, [], [(10, 10)])), (224, (.imul, 225, 0, .null, [], [])), (225, (.iload_n 1, 226, 0, .null, [], [])), (226, (.iadd, 227, 0, .null, [], [])), (227, (.bipush 48, 229, 0, .int (48), [], [])), (229, (.isub, 230, 0, .null, [], [])), (230, (.putfield 187, 233, 0, .null, [], [(10, 10)])), (233, (.aload_n 0, 234, 0, .null, [], [])), (234, (.dup, 235, 0, .null, [], [])), (235, (.getfield 180, 238, 0, .null, [], [(10, 9)])), (238, (.iconst 1, 239, 0, .int (1), [], [])), (239, (.iadd, 240, 0, .null, [], [])), (240, (.putfield 180, 243, 0, .null, [], [(10, 9)])), (243, (.iconst 1, 244, 0, .int (1), [], [])), (244, (.ireturn, 245, 0, .null, [], []))]
noncomputable abbrev jX12_takesNumber : List (Nat × sf_J (Int32 × sf_S)) := [(8, sf_jI sf_layM [] 3 gX12_in)]
abbrev wX12_takesNumber_217 {ρ : Type} (k : Int32 → sf_S → Option ρ) : sf_M ρ := fun L st σ => sf_lda L 0 fun a0 => sf_eq a0 0 (sf_ldi L 1 fun x1 => sf_nil st (k x1 σ))
theorem wX12_takesNumber_217_ok {ρ : Type} {Wt : Nat → sf_L → List Value → sf_S → Prop} {Post : ρ → Prop} (hm : sf_mono Wt) {k : Int32 → sf_S → Option ρ} (h : ∀ (x1 : Int32) (σ : sf_S) (u : ρ), k x1 σ = some u → Post u → Wt 217 [(0, some (.ref 0)), (1, some (.int x1))] [] σ) : sf_CK Wt Post 217 (wX12_takesNumber_217 k) := by
  intro L st σ u hf hp
  unfold wX12_takesNumber_217 at hf
  have hf0 := hf
  obtain ⟨a0, e0, hf1⟩ := sf_lda_inv hf0
  obtain ⟨rfl, hf2⟩ := sf_eq_inv hf1
  obtain ⟨x1, e1, hf3⟩ := sf_ldi_inv hf2
  obtain ⟨rfl, hz⟩ := sf_nil_inv hf3
  exact hm _ [(0, some (.ref _)), (1, some (.int x1))] _ _ _ (sf_le_ok (And.intro e0 (And.intro e1 trivial))) (h _ _ _ hz hp)
abbrev wX12_takesNumber_159 {ρ : Type} (k : Int32 → Int32 → sf_S → Option ρ) : sf_M ρ := fun L st σ => sf_lda L 0 fun a0 => sf_eq a0 0 (sf_i1 st fun y0 st => sf_i1 st fun y1 st => sf_a1 st fun b2 st => sf_eq b2 10 (sf_nil st (k y0 y1 σ)))
theorem wX12_takesNumber_159_ok {ρ : Type} {Wt : Nat → sf_L → List Value → sf_S → Prop} {Post : ρ → Prop} (hm : sf_mono Wt) {k : Int32 → Int32 → sf_S → Option ρ} (h : ∀ (y0 : Int32) (y1 : Int32) (σ : sf_S) (u : ρ), k y0 y1 σ = some u → Post u → Wt 159 [(0, some (.ref 0))] [.int y0, .int y1, .ref 10] σ) : sf_CK Wt Post 159 (wX12_takesNumber_159 k) := by
  intro L st σ u hf hp
  unfold wX12_takesNumber_159 at hf
  have hf0 := hf
  obtain ⟨a0, e0, hf1⟩ := sf_lda_inv hf0
  obtain ⟨rfl, hf2⟩ := sf_eq_inv hf1
  obtain ⟨y0, st, rfl, hf3⟩ := sf_i1_inv hf2
  obtain ⟨y1, st, rfl, hf4⟩ := sf_i1_inv hf3
  obtain ⟨b2, st, rfl, hf5⟩ := sf_a1_inv hf4
  obtain ⟨rfl, hf6⟩ := sf_eq_inv hf5
  obtain ⟨rfl, hz⟩ := sf_nil_inv hf6
  exact hm _ [(0, some (.ref _))] _ _ _ (sf_le_ok (And.intro e0 trivial)) (h _ _ _ _ hz hp)
abbrev wX12_takesNumber_127 {ρ : Type} (k : Int32 → Int32 → Int32 → Int32 → sf_S → Option ρ) : sf_M ρ := fun L st σ => sf_lda L 0 fun a0 => sf_eq a0 0 (sf_ldi L 2 fun x2 => sf_ldi L 4 fun x4 => sf_i1 st fun y0 st => sf_i1 st fun y1 st => sf_a1 st fun b2 st => sf_eq b2 9 (sf_nil st (k x2 x4 y0 y1 σ)))
theorem wX12_takesNumber_127_ok {ρ : Type} {Wt : Nat → sf_L → List Value → sf_S → Prop} {Post : ρ → Prop} (hm : sf_mono Wt) {k : Int32 → Int32 → Int32 → Int32 → sf_S → Option ρ} (h : ∀ (x2 : Int32) (x4 : Int32) (y0 : Int32) (y1 : Int32) (σ : sf_S) (u : ρ), k x2 x4 y0 y1 σ = some u → Post u → Wt 127 [(0, some (.ref 0)), (2, some (.int x2)), (4, some (.int x4))] [.int y0, .int y1, .ref 9] σ) : sf_CK Wt Post 127 (wX12_takesNumber_127 k) := by
  intro L st σ u hf hp
  unfold wX12_takesNumber_127 at hf
  have hf0 := hf
  obtain ⟨a0, e0, hf1⟩ := sf_lda_inv hf0
  obtain ⟨rfl, hf2⟩ := sf_eq_inv hf1
  obtain ⟨x2, e2, hf3⟩ := sf_ldi_inv hf2
  obtain ⟨x4, e4, hf4⟩ := sf_ldi_inv hf3
  obtain ⟨y0, st, rfl, hf5⟩ := sf_i1_inv hf4
  obtain ⟨y1, st, rfl, hf6⟩ := sf_i1_inv hf5
  obtain ⟨b2, st, rfl, hf7⟩ := sf_a1_inv hf6
  obtain ⟨rfl, hf8⟩ := sf_eq_inv hf7
  obtain ⟨rfl, hz⟩ := sf_nil_inv hf8
  exact hm _ [(0, some (.ref _)), (2, some (.int x2)), (4, some (.int x4))] _ _ _ (sf_le_ok (And.intro e0 (And.intro e2 (And.intro e4 trivial)))) (h _ _ _ _ _ _ hz hp)
abbrev wX12_takesNumber_94 {ρ : Type} (k : Int32 → Int32 → sf_S → Option ρ) : sf_M ρ := fun L st σ => sf_lda L 0 fun a0 => sf_eq a0 0 (sf_ldi L 2 fun x2 => sf_i1 st fun y0 st => sf_nil st (k x2 y0 σ))
theorem wX12_takesNumber_94_ok {ρ : Type} {Wt : Nat → sf_L → List Value → sf_S → Prop} {Post : ρ → Prop} (hm : sf_mono Wt) {k : Int32 → Int32 → sf_S → Option ρ} (h : ∀ (x2 : Int32) (y0 : Int32) (σ : sf_S) (u : ρ), k x2 y0 σ = some u → Post u → Wt 94 [(0, some (.ref 0)), (2, some (.int x2))] [.int y0] σ) : sf_CK Wt Post 94 (wX12_takesNumber_94 k) := by
  intro L st σ u hf hp
  unfold wX12_takesNumber_94 at hf
  have hf0 := hf
  obtain ⟨a0, e0, hf1⟩ := sf_lda_inv hf0
  obtain ⟨rfl, hf2⟩ := sf_eq_inv hf1
  obtain ⟨x2, e2, hf3⟩ := sf_ldi_inv hf2
  obtain ⟨y0, st, rfl, hf4⟩ := sf_i1_inv hf3
  obtain ⟨rfl, hz⟩ := sf_nil_inv hf4
  exact hm _ [(0, some (.ref _)), (2, some (.int x2))] _ _ _ (sf_le_ok (And.intro e0 (And.intro e2 trivial))) (h _ _ _ _ hz hp)
abbrev wX12_takesNumber_44 {ρ : Type} (k : Int32 → Int32 → Int32 → sf_S → Option ρ) : sf_M ρ := fun L st σ => sf_lda L 0 fun a0 => sf_eq a0 0 (sf_ldi L 1 fun x1 => sf_ldi L 2 fun x2 => sf_ldi L 3 fun x3 => sf_nil st (k x1 x2 x3 σ))
theorem wX12_takesNumber_44_ok {ρ : Type} {Wt : Nat → sf_L → List Value → sf_S → Prop} {Post : ρ → Prop} (hm : sf_mono Wt) {k : Int32 → Int32 → Int32 → sf_S → Option ρ} (h : ∀ (x1 : Int32) (x2 : Int32) (x3 : Int32) (σ : sf_S) (u : ρ), k x1 x2 x3 σ = some u → Post u → Wt 44 [(0, some (.ref 0)), (1, some (.int x1)), (2, some (.int x2)), (3, some (.int x3))] [] σ) : sf_CK Wt Post 44 (wX12_takesNumber_44 k) := by
  intro L st σ u hf hp
  unfold wX12_takesNumber_44 at hf
  have hf0 := hf
  obtain ⟨a0, e0, hf1⟩ := sf_lda_inv hf0
  obtain ⟨rfl, hf2⟩ := sf_eq_inv hf1
  obtain ⟨x1, e1, hf3⟩ := sf_ldi_inv hf2
  obtain ⟨x2, e2, hf4⟩ := sf_ldi_inv hf3
  obtain ⟨x3, e3, hf5⟩ := sf_ldi_inv hf4
  obtain ⟨rfl, hz⟩ := sf_nil_inv hf5
  exact hm _ [(0, some (.ref _)), (1, some (.int x1)), (2, some (.int x2)), (3, some (.int x3))] _ _ _ (sf_le_ok (And.intro e0 (And.intro e1 (And.intro e2 (And.intro e3 trivial))))) (h _ _ _ _ _ hz hp)
noncomputable def dX12_takesNumber_217 (x1 : Int32) (σ : sf_S) : Option (Int32 × sf_S) :=
  let s1 := sf_up σ 0 10 ((((10 : Int32) * (σ 0 10)) + x1) - (48 : Int32))
  let s2 := sf_up s1 0 9 ((s1 0 9) + (1 : Int32))
  some ((1 : Int32), s2)
set_option maxRecDepth 100000 in
set_option maxHeartbeats 4000000 in
theorem rX12_takesNumber_217 {Wt : Nat → sf_L → List Value → sf_S → Prop} {Post : (Int32 × sf_S) → Prop} (hs : sf_Snd Wt sf_layM sf_hZ jX12_takesNumber tX12_takesNumber Post) (hm : sf_mono Wt) : sf_CK Wt Post 217 (wX12_takesNumber_217 (dX12_takesNumber_217)) := by
  refine wX12_takesNumber_217_ok hm ?_
  intro x1 σ u h hp
  exact sf_run_ok hs sf_sm_nil 144 217 _ _ σ u h hp
noncomputable def dX12_takesNumber_159 (y0 : Int32) (y1 : Int32) (σ : sf_S) : Option (Int32 × sf_S) :=
  if sf_in y1 40 then
    let s1 := sf_up σ 10 y1.toNatClampNeg y0
    let s2 := sf_up s1 0 8 ((s1 0 8) - (1 : Int32))
    let s3 := sf_up s2 0 9 (0 : Int32)
    let s4 := sf_up s3 0 10 (0 : Int32)
    let s5 := sf_up s4 0 11 (0 : Int32)
    some ((1 : Int32), s5)
  else
    none
set_option maxRecDepth 100000 in
set_option maxHeartbeats 4000000 in
theorem rX12_takesNumber_159 {Wt : Nat → sf_L → List Value → sf_S → Prop} {Post : (Int32 × sf_S) → Prop} (hs : sf_Snd Wt sf_layM sf_hZ jX12_takesNumber tX12_takesNumber Post) (hm : sf_mono Wt) : sf_CK Wt Post 159 (wX12_takesNumber_159 (dX12_takesNumber_159)) := by
  refine wX12_takesNumber_159_ok hm ?_
  intro y0 y1 σ u h hp
  exact sf_run_ok hs sf_sm_nil 144 159 _ _ σ u h hp
noncomputable def dX12_takesNumber_127 (x2 : Int32) (x4 : Int32) (y0 : Int32) (y1 : Int32) (σ : sf_S) : Option (Int32 × sf_S) :=
  if sf_in y1 40 then
    let s1 := sf_up σ 9 y1.toNatClampNeg y0
    if ¬ x2 = (3 : Int32) then
      let v2 := ((s1 0 16) - (1 : Int32))
      if sf_in v2 40 then
        dX12_takesNumber_159 (s1 10 v2.toNatClampNeg) ((s1 0 16) - (1 : Int32)) s1
      else
        none
    else
      dX12_takesNumber_159 x4 ((s1 0 16) - (1 : Int32)) s1
  else
    none
set_option maxRecDepth 100000 in
set_option maxHeartbeats 4000000 in
theorem rX12_takesNumber_127 {Wt : Nat → sf_L → List Value → sf_S → Prop} {Post : (Int32 × sf_S) → Prop} (hs : sf_Snd Wt sf_layM sf_hZ jX12_takesNumber tX12_takesNumber Post) (hm : sf_mono Wt) : sf_CK Wt Post 127 (wX12_takesNumber_127 (dX12_takesNumber_127)) := by
  refine wX12_takesNumber_127_ok hm ?_
  intro x2 x4 y0 y1 σ u h hp
  exact sf_run_ok hs (sf_sm_cons (rX12_takesNumber_159 hs hm) sf_sm_nil) 144 127 _ _ σ u h hp
noncomputable def dX12_takesNumber_94 (x2 : Int32) (y0 : Int32) (σ : sf_S) : Option (Int32 × sf_S) :=
  if ¬ x2 = (3 : Int32) then
    dX12_takesNumber_127 x2 y0 y0 ((σ 0 16) - (1 : Int32)) σ
  else
    let v1 := ((σ 0 16) - (1 : Int32))
    if sf_in v1 40 then
      dX12_takesNumber_127 x2 y0 (σ 9 v1.toNatClampNeg) ((σ 0 16) - (1 : Int32)) σ
    else
      none
set_option maxRecDepth 100000 in
set_option maxHeartbeats 4000000 in
theorem rX12_takesNumber_94 {Wt : Nat → sf_L → List Value → sf_S → Prop} {Post : (Int32 × sf_S) → Prop} (hs : sf_Snd Wt sf_layM sf_hZ jX12_takesNumber tX12_takesNumber Post) (hm : sf_mono Wt) : sf_CK Wt Post 94 (wX12_takesNumber_94 (dX12_takesNumber_94)) := by
  refine wX12_takesNumber_94_ok hm ?_
  intro x2 y0 σ u h hp
  exact sf_run_ok hs (sf_sm_cons (rX12_takesNumber_127 hs hm) sf_sm_nil) 144 94 _ _ σ u h hp
noncomputable def dX12_takesNumber_44 (x1 : Int32) (x2 : Int32) (x3 : Int32) (σ : sf_S) : Option (Int32 × sf_S) :=
  if x3 = 0 then
    some ((0 : Int32), σ)
  else
    if ¬ x1 = (48 : Int32) then
      dX12_takesNumber_217 x1 σ
    else
      if ¬ (σ 0 11) = 0 then
        some ((0 : Int32), σ)
      else
        if ¬ x2 = (4 : Int32) then
          dX12_takesNumber_217 x1 σ
        else
          some ((0 : Int32), σ)
set_option maxRecDepth 100000 in
set_option maxHeartbeats 4000000 in
theorem rX12_takesNumber_44 {Wt : Nat → sf_L → List Value → sf_S → Prop} {Post : (Int32 × sf_S) → Prop} (hs : sf_Snd Wt sf_layM sf_hZ jX12_takesNumber tX12_takesNumber Post) (hm : sf_mono Wt) : sf_CK Wt Post 44 (wX12_takesNumber_44 (dX12_takesNumber_44)) := by
  refine wX12_takesNumber_44_ok hm ?_
  intro x1 x2 x3 σ u h hp
  exact sf_run_ok hs (sf_sm_cons (rX12_takesNumber_217 hs hm) sf_sm_nil) 144 44 _ _ σ u h hp
noncomputable def dX12_takesNumber (x1 : Int32) (x2 : Int32) (σ : sf_S) : Option (Int32 × sf_S) :=
  (dX12_in x1.toInt64 (48 : Int64) (57 : Int64) σ).bind fun u1 =>
  if ¬ (u1.2 0 9) = 0 then
    if ¬ x1 = (59 : Int32) then
      if u1.1 = 0 then
        some ((0 : Int32), u1.2)
      else
        if (u1.2 0 10) = 0 then
          some ((0 : Int32), u1.2)
        else
          if ¬ x2 = (5 : Int32) then
            if ¬ (u1.2 0 9) = (4 : Int32) then
              dX12_takesNumber_217 x1 u1.2
            else
              some ((0 : Int32), u1.2)
          else
            if ¬ (u1.2 0 9) = (2 : Int32) then
              dX12_takesNumber_217 x1 u1.2
            else
              some ((0 : Int32), u1.2)
    else
      if (u1.2 0 11) = 0 then
        dX12_takesNumber_94 x2 (u1.2 0 10) u1.2
      else
        dX12_takesNumber_94 x2 ((0 : Int32) - (u1.2 0 10)) u1.2
  else
    if ¬ x1 = (45 : Int32) then
      dX12_takesNumber_44 x1 x2 u1.1 u1.2
    else
      if (4 : Int32) ≤ x2 then
        dX12_takesNumber_44 x1 x2 u1.1 u1.2
      else
        if ¬ (u1.2 0 11) = 0 then
          dX12_takesNumber_44 x1 x2 u1.1 u1.2
        else
          let s2 := sf_up u1.2 0 11 (1 : Int32)
          some ((1 : Int32), s2)
noncomputable abbrev gX12_takesNumber (av : List Value) (σ : sf_S) : Option (Int32 × sf_S) := match av with
  | [.ref q, .int x1, .int x2] => (match sf_rv [0] q with | true => dX12_takesNumber x1 x2 σ | false => none)
  | _ => none
set_option maxRecDepth 100000 in
set_option maxHeartbeats 4000000 in
theorem rX12_takesNumber {Wt : Nat → sf_L → List Value → sf_S → Prop} {Post : (Int32 × sf_S) → Prop} (hs : sf_Snd Wt sf_layM sf_hZ jX12_takesNumber tX12_takesNumber Post) (hm : sf_mono Wt) : ∀ av σ u, gX12_takesNumber av σ = some u → Post u → (∀ ad, (lg_sl (av.map (sf_v ad))).length ≤ 5) ∧ Wt 0 (sf_ent 0 av) [] σ := by
  intro av σ u h hp
  unfold gX12_takesNumber at h
  split at h
  · rename_i q x1 x2
    split at h
    · rename_i hq
      have hq : q = 0 := by simpa using sf_rv_mem hq
      subst hq
      refine ⟨fun ad => Nat.le_of_ble_eq_true rfl, ?_⟩
      exact sf_run_ok hs (sf_sm_cons (rX12_takesNumber_44 hs hm) (sf_sm_cons (rX12_takesNumber_94 hs hm) (sf_sm_cons (rX12_takesNumber_217 hs hm) sf_sm_nil))) 144 0 _ _ σ u h hp
    · cases h
  · cases h
theorem kX12_takesNumber (l : Launch) : sf_C l sf_layM yX12_takesNumber cX12_takesNumber 5 (some .boolean) (sf_rm 2 125) (fun av σ => (gX12_takesNumber av σ).map sf_vI) :=
  sf_met (tab := tX12_takesNumber) (J := jX12_takesNumber) (fl := sf_fl12) (cl := sf_cl12) (by decide +kernel) ⟨rfl, rfl⟩ sf_RH_Z (by decide +kernel) sf_fl12_ok sf_cl12_ok
    (sf_JO_cons (sf_je_S (n := 3) (tv := sf_vI) (kX12_in l) mwX12_in (by decide +kernel : decode cX12_takesNumber 8 = .ok (.invokestatic 132, 3)) wt_1378 wt_1379 (by decide +kernel) (sf_RM_of (by omega) (by omega))) (sf_JO_nil))
    (fun Wt Post hs hm => rX12_takesNumber hs hm)
-- ===== StreamFuserModel.takesSign(II)Z =====
abbrev tX12_takesSign : List (Nat × sf_E) := [(0, (.iload_n 2, 1, 0, .null, [], [])), (1, (.bipush 6, 3, 0, .int (6), [], [])), (3, (.if_icmp .ne 29, 6, 32, .null, [], [])), (6, (.iload_n 1, 7, 0, .null, [], [])), (7, (.bipush 60, 9, 0, .int (60), [], [])), (9, (.if_icmp .eq 15, 12, 24, .null, [], [])), (12, (.iload_n 1, 13, 0, .null, [], [])), (13, (.bipush 62, 15, 0, .int (62), [], [])), (15, (.if_icmp .eq 9, 18, 24, .null, [], [])), (18, (.iload_n 1, 19, 0, .null, [], [])), (19, (.bipush 61, 21, 0, .int (61), [], [])), (21, (.if_icmp .ne 7, 24, 28, .null, [], [])), (24, (.iconst 1, 25, 0, .int (1), [], [])), (25, (.goto 62, 28, 87, .null, [], [])), (28, (.iconst 0, 29, 0, .int (0), [], [])), (29, (.goto 58, 32, 87, .null, [], [])), (32, (.iload_n 2, 33, 0, .null, [], [])), (33, (.bipush 7, 35, 0, .int (7), [], [])), (35, (.if_icmp .ne 29, 38, 64, .null, [], [])), (38, (.iload_n 1, 39, 0, .null, [], [])), (39, (.bipush 43, 41, 0, .int (43), [], [])), (41, (.if_icmp .eq 15, 44, 56, .null, [], [])), (44, (.iload_n 1, 45, 0, .null, [], [])), (45, (.bipush 42, 47, 0, .int (42), [], [])), (47, (.if_icmp .eq 9, 50, 56, .null, [], [])), (50, (.iload_n 1, 51, 0, .null, [], [])), (51, (.bipush 60, 53, 0, .int (60), [], [])), (53, (.if_icmp .ne 7, 56, 60, .null, [], [])), (56, (.iconst 1, 57, 0, .int (1), [], [])), (57, (.goto 30, 60, 87, .null, [], [])), (60, (.iconst 0, 61, 0, .int (0), [], [])), (61, (.goto 26, 64, 87, .null, [], [])), (64, (.iload_n 1, 65, 0, .null, [], [])), (65, (.i2l, 66, 0, .null, [], [])), (66, (.ldc2_w 176, 69, 0, .long (48), [], [])), (69, (.iload_n 2, 70, 0, .null, [], [])), (70, (.bipush 8, 72, 0, .int (8), [], [])), (72, (.if_icmp .ne 9, 75, 81, .null, [], [])), (75, (.ldc2_w 190, 78, 0, .long (51), [], [])), (78, (.goto 6, 81, 84, .null, [], [])), (81, (.ldc2_w 178, 84, 0, .long (57), [], [])), (84, (.invokestatic 132, 87, 0, .null, [], [])), (87, (.istore_n 3, 88, 0, .null, [], [])), (88, (.iload_n 3, 89, 0, .null, [], [])), (89, (.ifCond .eq 38, 92, 127, .null, [], [])), (92, (.aload_n 0, 93, 0, .null, [], [])), (93, (.getfield 31, 96, 0, .null, [], [(10, 13)])), (96, (.aload_n 0, 97, 0, .null, [], [])), (97, (.getfield 169, 100, 0, .null, [], [(10, 16)])), (100, (.iconst 1, 101, 0, .int (1), [], [])), (101, (.isub, 102, 0, .null, [], [])), (102, (.iload_n 2, 103, 0, .null, [], [])), (103, (.bipush 8, 105, 0, .int (8), [], [])), (105, (.if_icmp .ge 7, 108, 112, .null, [], [])), (108, (.iload_n 1, 109, 0, .null, [], [])), (109, (.goto 7, 112, 116, .null, [], [])), (112, (.iload_n 1, 113, 0, .null, [], [])), (113, (.bipush 48, 115, 0, .int (48), [], [])), (115, (.isub, 116, 0, .null, [], [])), (116, (.iastore, 117, 0, .null, [], [])), (117, (.aload_n 0, 118, 0, .null, [], [])), (118, (.dup, 119, 0, .null, [], [])), (119, (.getfield 160, 122, 0, .null, [], [(10, 8)])), (122, (.iconst 1, 123, 0, .int (1), [], [])), (123, (.isub, 124, 0, .null, [], [])), (124, (.putfield 160, 127, 0, .null, [], [(10, 8)])), (127, (.iload_n 3, 128, 0, .null, [], [])), (128, (.ireturn, 129, 0, .null, [], []))]
noncomputable abbrev jX12_takesSign : List (Nat × sf_J (Int32 × sf_S)) := [(84, sf_jI sf_layM [] 3 gX12_in)]
abbrev wX12_takesSign_87 {ρ : Type} (k : Int32 → Int32 → Int32 → sf_S → Option ρ) : sf_M ρ := fun L st σ => sf_lda L 0 fun a0 => sf_eq a0 0 (sf_ldi L 1 fun x1 => sf_ldi L 2 fun x2 => sf_i1 st fun y0 st => sf_nil st (k x1 x2 y0 σ))
theorem wX12_takesSign_87_ok {ρ : Type} {Wt : Nat → sf_L → List Value → sf_S → Prop} {Post : ρ → Prop} (hm : sf_mono Wt) {k : Int32 → Int32 → Int32 → sf_S → Option ρ} (h : ∀ (x1 : Int32) (x2 : Int32) (y0 : Int32) (σ : sf_S) (u : ρ), k x1 x2 y0 σ = some u → Post u → Wt 87 [(0, some (.ref 0)), (1, some (.int x1)), (2, some (.int x2))] [.int y0] σ) : sf_CK Wt Post 87 (wX12_takesSign_87 k) := by
  intro L st σ u hf hp
  unfold wX12_takesSign_87 at hf
  have hf0 := hf
  obtain ⟨a0, e0, hf1⟩ := sf_lda_inv hf0
  obtain ⟨rfl, hf2⟩ := sf_eq_inv hf1
  obtain ⟨x1, e1, hf3⟩ := sf_ldi_inv hf2
  obtain ⟨x2, e2, hf4⟩ := sf_ldi_inv hf3
  obtain ⟨y0, st, rfl, hf5⟩ := sf_i1_inv hf4
  obtain ⟨rfl, hz⟩ := sf_nil_inv hf5
  exact hm _ [(0, some (.ref _)), (1, some (.int x1)), (2, some (.int x2))] _ _ _ (sf_le_ok (And.intro e0 (And.intro e1 (And.intro e2 trivial)))) (h _ _ _ _ _ hz hp)
noncomputable def dX12_takesSign_87 (x1 : Int32) (x2 : Int32) (y0 : Int32) (σ : sf_S) : Option (Int32 × sf_S) :=
  if y0 = 0 then
    if sf_01 y0 then some (y0, σ) else none
  else
    if (8 : Int32) ≤ x2 then
      let v1 := ((σ 0 16) - (1 : Int32))
      if sf_in v1 40 then
        let s2 := sf_up σ 8 v1.toNatClampNeg (x1 - (48 : Int32))
        let s3 := sf_up s2 0 8 ((s2 0 8) - (1 : Int32))
        if sf_01 y0 then some (y0, s3) else none
      else
        none
    else
      let v4 := ((σ 0 16) - (1 : Int32))
      if sf_in v4 40 then
        let s5 := sf_up σ 8 v4.toNatClampNeg x1
        let s6 := sf_up s5 0 8 ((s5 0 8) - (1 : Int32))
        if sf_01 y0 then some (y0, s6) else none
      else
        none
set_option maxRecDepth 100000 in
set_option maxHeartbeats 4000000 in
theorem rX12_takesSign_87 {Wt : Nat → sf_L → List Value → sf_S → Prop} {Post : (Int32 × sf_S) → Prop} (hs : sf_Snd Wt sf_layM sf_hZ jX12_takesSign tX12_takesSign Post) (hm : sf_mono Wt) : sf_CK Wt Post 87 (wX12_takesSign_87 (dX12_takesSign_87)) := by
  refine wX12_takesSign_87_ok hm ?_
  intro x1 x2 y0 σ u h hp
  exact sf_run_ok hs sf_sm_nil 73 87 _ _ σ u h hp
noncomputable def dX12_takesSign (x1 : Int32) (x2 : Int32) (σ : sf_S) : Option (Int32 × sf_S) :=
  if ¬ x2 = (6 : Int32) then
    if ¬ x2 = (7 : Int32) then
      if ¬ x2 = (8 : Int32) then
        (dX12_in x1.toInt64 (48 : Int64) (57 : Int64) σ).bind fun u1 =>
        dX12_takesSign_87 x1 x2 u1.1 u1.2
      else
        (dX12_in x1.toInt64 (48 : Int64) (51 : Int64) σ).bind fun u2 =>
        dX12_takesSign_87 x1 x2 u2.1 u2.2
    else
      if x1 = (43 : Int32) then
        dX12_takesSign_87 x1 x2 (1 : Int32) σ
      else
        if x1 = (42 : Int32) then
          dX12_takesSign_87 x1 x2 (1 : Int32) σ
        else
          if ¬ x1 = (60 : Int32) then
            dX12_takesSign_87 x1 x2 (0 : Int32) σ
          else
            dX12_takesSign_87 x1 x2 (1 : Int32) σ
  else
    if x1 = (60 : Int32) then
      dX12_takesSign_87 x1 x2 (1 : Int32) σ
    else
      if x1 = (62 : Int32) then
        dX12_takesSign_87 x1 x2 (1 : Int32) σ
      else
        if ¬ x1 = (61 : Int32) then
          dX12_takesSign_87 x1 x2 (0 : Int32) σ
        else
          dX12_takesSign_87 x1 x2 (1 : Int32) σ
noncomputable abbrev gX12_takesSign (av : List Value) (σ : sf_S) : Option (Int32 × sf_S) := match av with
  | [.ref q, .int x1, .int x2] => (match sf_rv [0] q with | true => dX12_takesSign x1 x2 σ | false => none)
  | _ => none
set_option maxRecDepth 100000 in
set_option maxHeartbeats 4000000 in
theorem rX12_takesSign {Wt : Nat → sf_L → List Value → sf_S → Prop} {Post : (Int32 × sf_S) → Prop} (hs : sf_Snd Wt sf_layM sf_hZ jX12_takesSign tX12_takesSign Post) (hm : sf_mono Wt) : ∀ av σ u, gX12_takesSign av σ = some u → Post u → (∀ ad, (lg_sl (av.map (sf_v ad))).length ≤ 4) ∧ Wt 0 (sf_ent 0 av) [] σ := by
  intro av σ u h hp
  unfold gX12_takesSign at h
  split at h
  · rename_i q x1 x2
    split at h
    · rename_i hq
      have hq : q = 0 := by simpa using sf_rv_mem hq
      subst hq
      refine ⟨fun ad => Nat.le_of_ble_eq_true rfl, ?_⟩
      exact sf_run_ok hs (sf_sm_cons (rX12_takesSign_87 hs hm) sf_sm_nil) 73 0 _ _ σ u h hp
    · cases h
  · cases h
theorem kX12_takesSign (l : Launch) : sf_C l sf_layM yX12_takesSign cX12_takesSign 4 (some .boolean) (sf_rm 2 125) (fun av σ => (gX12_takesSign av σ).map sf_vI) :=
  sf_met (tab := tX12_takesSign) (J := jX12_takesSign) (fl := sf_fl12) (cl := sf_cl12) (by decide +kernel) ⟨rfl, rfl⟩ sf_RH_Z (by decide +kernel) sf_fl12_ok sf_cl12_ok
    (sf_JO_cons (sf_je_S (n := 3) (tv := sf_vI) (kX12_in l) mwX12_in (by decide +kernel : decode cX12_takesSign 84 = .ok (.invokestatic 132, 3)) wt_1378 wt_1379 (by decide +kernel) (sf_RM_of (by omega) (by omega))) (sf_JO_nil))
    (fun Wt Post hs hm => rX12_takesSign hs hm)
-- ===== StreamFuserModel.faultNow()I =====
abbrev tX12_faultNow : List (Nat × sf_E) := [(0, (.aload_n 0, 1, 0, .null, [], [])), (1, (.iconst 1, 2, 0, .int (1), [], [])), (2, (.putfield 160, 5, 0, .null, [], [(10, 8)])), (5, (.aload_n 0, 6, 0, .null, [], [])), (6, (.getfield 25, 9, 0, .null, [], [(10, 7)])), (9, (.iconst 0, 10, 0, .int (0), [], [])), (10, (.iconst 0, 11, 0, .int (0), [], [])), (11, (.iastore, 12, 0, .null, [], [])), (12, (.aload_n 0, 13, 0, .null, [], [])), (13, (.iconst 0, 14, 0, .int (0), [], [])), (14, (.putfield 180, 17, 0, .null, [], [(10, 9)])), (17, (.aload_n 0, 18, 0, .null, [], [])), (18, (.iconst 0, 19, 0, .int (0), [], [])), (19, (.putfield 187, 22, 0, .null, [], [(10, 10)])), (22, (.aload_n 0, 23, 0, .null, [], [])), (23, (.iconst 0, 24, 0, .int (0), [], [])), (24, (.putfield 183, 27, 0, .int 0, [], [(10, 11)])), (27, (.aload_n 0, 28, 0, .null, [], [])), (28, (.iconst 0, 29, 0, .int (0), [], [])), (29, (.putfield 169, 32, 0, .null, [], [(10, 16)])), (32, (.iconst 0, 33, 0, .int (0), [], [])), (33, (.istore_n 1, 34, 0, .null, [], [])), (34, (.iload_n 1, 35, 0, .null, [], [])), (35, (.aload_n 0, 36, 0, .null, [], [])), (36, (.getfield 157, 39, 0, .null, [], [(10, 6)])), (39, (.if_icmp .ge 87, 42, 126, .null, [], [])), (42, (.aload_n 0, 43, 0, .null, [], [])), (43, (.getfield 160, 46, 0, .null, [], [(10, 8)])), (46, (.ifCond .ne 5, 49, 51, .null, [], [])), (49, (.iload_n 1, 50, 0, .null, [], [])), (50, (.ireturn, 51, 0, .null, [], [])), (51, (.aload_n 0, 52, 0, .null, [], [])), (52, (.getfield 25, 55, 0, .null, [], [(10, 7)])), (55, (.aload_n 0, 56, 0, .null, [], [])), (56, (.getfield 160, 59, 0, .null, [], [(10, 8)])), (59, (.iconst 1, 60, 0, .int (1), [], [])), (60, (.isub, 61, 0, .null, [], [])), (61, (.iaload, 62, 0, .null, [], [])), (62, (.istore_n 2, 63, 0, .null, [], [])), (63, (.iload_n 2, 64, 0, .null, [], [])), (64, (.iconst 2, 65, 0, .int (2), [], [])), (65, (.if_icmp .ge 17, 68, 82, .null, [], [])), (68, (.aload_n 0, 69, 0, .null, [], [])), (69, (.aload_n 0, 70, 0, .null, [], [])), (70, (.getfield 22, 73, 0, .null, [], [(10, 5)])), (73, (.iload_n 1, 74, 0, .null, [], [])), (74, (.iaload, 75, 0, .null, [], [])), (75, (.iload_n 2, 76, 0, .null, [], [])), (76, (.invokevirtual 192, 79, 0, .null, [], [])), (79, (.goto 34, 82, 113, .null, [], [])), (82, (.iload_n 2, 83, 0, .null, [], [])), (83, (.bipush 6, 85, 0, .int (6), [], [])), (85, (.if_icmp .ge 17, 88, 102, .null, [], [])), (88, (.aload_n 0, 89, 0, .null, [], [])), (89, (.aload_n 0, 90, 0, .null, [], [])), (90, (.getfield 22, 93, 0, .null, [], [(10, 5)])), (93, (.iload_n 1, 94, 0, .null, [], [])), (94, (.iaload, 95, 0, .null, [], [])), (95, (.iload_n 2, 96, 0, .null, [], [])), (96, (.invokevirtual 196, 99, 0, .null, [], [])), (99, (.goto 14, 102, 113, .null, [], [])), (102, (.aload_n 0, 103, 0, .null, [], [])), (103, (.aload_n 0, 104, 0, .null, [], [])), (104, (.getfield 22, 107, 0, .null, [], [(10, 5)])), (107, (.iload_n 1, 108, 0, .null, [], [])), (108, (.iaload, 109, 0, .null, [], [])), (109, (.iload_n 2, 110, 0, .null, [], [])), (110, (.invokevirtual 199, 113, 0, .null, [], [])), (113, (.istore_n 3, 114, 0, .null, [], [])), (114, (.iload_n 3, 115, 0, .null, [], [])), (115, (.ifCond .ne 5, 118, 120, .null, [], [])), (118, (.iload_n 1, 119, 0, .null, [], [])), (119, (.ireturn, 120, 0, .null, [], [])), (120, (.iinc 1 1, 123, 0, .int (1), [], [])), (123, (.goto (-89), 126, 34, .null, [], [])), (126, (.aload_n 0, 127, 0, .null, [], [])), (127, (.getfield 160, 130, 0, .null, [], [(10, 8)])), (130, (.ifCond .ne 7, 133, 137, .null, [], [])), (133, (.iconst (-1), 134, 0, .int (-1), [], [])), (134, (.goto 7, 137, 141, .null, [], [])), (137, (.aload_n 0, 138, 0, .null, [], [])), (138, (.getfield 157, 141, 0, .null, [], [(10, 6)])), (141, (.ireturn, 142, 0, .null, [], []))]
noncomputable abbrev jX12_faultNow : List (Nat × sf_J (Int32 × sf_S)) := [(76, sf_jI sf_layM [10] 3 gX12_takesLetter), (96, sf_jI sf_layM [10] 3 gX12_takesNumber), (110, sf_jI sf_layM [10] 3 gX12_takesSign)]
abbrev wX12_faultNow_34 {ρ : Type} (k : Int32 → sf_S → Option ρ) : sf_M ρ := fun L st σ => sf_lda L 0 fun a0 => sf_eq a0 0 (sf_ldi L 1 fun x1 => sf_nil st (k x1 σ))
theorem wX12_faultNow_34_ok {ρ : Type} {Wt : Nat → sf_L → List Value → sf_S → Prop} {Post : ρ → Prop} (hm : sf_mono Wt) {k : Int32 → sf_S → Option ρ} (h : ∀ (x1 : Int32) (σ : sf_S) (u : ρ), k x1 σ = some u → Post u → Wt 34 [(0, some (.ref 0)), (1, some (.int x1))] [] σ) : sf_CK Wt Post 34 (wX12_faultNow_34 k) := by
  intro L st σ u hf hp
  unfold wX12_faultNow_34 at hf
  have hf0 := hf
  obtain ⟨a0, e0, hf1⟩ := sf_lda_inv hf0
  obtain ⟨rfl, hf2⟩ := sf_eq_inv hf1
  obtain ⟨x1, e1, hf3⟩ := sf_ldi_inv hf2
  obtain ⟨rfl, hz⟩ := sf_nil_inv hf3
  exact hm _ [(0, some (.ref _)), (1, some (.int x1))] _ _ _ (sf_le_ok (And.intro e0 (And.intro e1 trivial))) (h _ _ _ hz hp)
noncomputable def dX12_faultNow_34 : Nat → Int32 → sf_S → Option (Int32 × sf_S)
  | 0 => fun _ _ => none
  | n + 1 => fun x1 σ =>
    if (σ 0 6) ≤ x1 then
      if ¬ (σ 0 8) = 0 then
        some ((σ 0 6), σ)
      else
        some ((-1 : Int32), σ)
    else
      if ¬ (σ 0 8) = 0 then
        let v1 := ((σ 0 8) - (1 : Int32))
        if sf_in v1 160 then
          let v2 := (σ 6 v1.toNatClampNeg)
          if (2 : Int32) ≤ v2 then
            if (6 : Int32) ≤ v2 then
              if sf_in x1 40 then
                (dX12_takesSign (σ 5 x1.toNatClampNeg) v2 σ).bind fun u3 =>
                if ¬ u3.1 = 0 then
                  dX12_faultNow_34 n (x1 + (1 : Int32)) u3.2
                else
                  some (x1, u3.2)
              else
                none
            else
              if sf_in x1 40 then
                (dX12_takesNumber (σ 5 x1.toNatClampNeg) v2 σ).bind fun u4 =>
                if ¬ u4.1 = 0 then
                  dX12_faultNow_34 n (x1 + (1 : Int32)) u4.2
                else
                  some (x1, u4.2)
              else
                none
          else
            if sf_in x1 40 then
              (dX12_takesLetter (σ 5 x1.toNatClampNeg) v2 σ).bind fun u5 =>
              if ¬ u5.1 = 0 then
                dX12_faultNow_34 n (x1 + (1 : Int32)) u5.2
              else
                some (x1, u5.2)
            else
              none
        else
          none
      else
        some (x1, σ)
set_option maxRecDepth 100000 in
set_option maxHeartbeats 4000000 in
theorem rX12_faultNow_34 {Wt : Nat → sf_L → List Value → sf_S → Prop} {Post : (Int32 × sf_S) → Prop} (hs : sf_Snd Wt sf_layM sf_hI jX12_faultNow tX12_faultNow Post) (hm : sf_mono Wt) : ∀ n : Nat, sf_CK Wt Post 34 (wX12_faultNow_34 (dX12_faultNow_34 n)) := by
  intro n
  induction n with
  | zero => exact wX12_faultNow_34_ok hm (fun x1 σ u h _ => by simp [dX12_faultNow_34] at h)
  | succ n ih =>
    refine wX12_faultNow_34_ok hm ?_
    intro x1 σ u h hp
    exact sf_run_ok hs (sf_sm_cons ih sf_sm_nil) 88 34 _ _ σ u h hp
noncomputable def dX12_faultNow (σ : sf_S) : Option (Int32 × sf_S) :=
  let s1 := sf_up σ 0 8 (1 : Int32)
  if sf_in (0 : Int32) 160 then
    let s2 := sf_up s1 6 ((0 : Int32)).toNatClampNeg (0 : Int32)
    let s3 := sf_up s2 0 9 (0 : Int32)
    let s4 := sf_up s3 0 10 (0 : Int32)
    let s5 := sf_up s4 0 11 (0 : Int32)
    let s6 := sf_up s5 0 16 (0 : Int32)
    dX12_faultNow_34 sf_F (0 : Int32) s6
  else
    none
noncomputable abbrev gX12_faultNow (av : List Value) (σ : sf_S) : Option (Int32 × sf_S) := match av with
  | [.ref q] => (match sf_rv [0] q with | true => dX12_faultNow σ | false => none)
  | _ => none
set_option maxRecDepth 100000 in
set_option maxHeartbeats 4000000 in
theorem rX12_faultNow {Wt : Nat → sf_L → List Value → sf_S → Prop} {Post : (Int32 × sf_S) → Prop} (hs : sf_Snd Wt sf_layM sf_hI jX12_faultNow tX12_faultNow Post) (hm : sf_mono Wt) : ∀ av σ u, gX12_faultNow av σ = some u → Post u → (∀ ad, (lg_sl (av.map (sf_v ad))).length ≤ 4) ∧ Wt 0 (sf_ent 0 av) [] σ := by
  intro av σ u h hp
  unfold gX12_faultNow at h
  split at h
  · rename_i q
    split at h
    · rename_i hq
      have hq : q = 0 := by simpa using sf_rv_mem hq
      subst hq
      refine ⟨fun ad => Nat.le_of_ble_eq_true rfl, ?_⟩
      exact sf_run_ok hs (sf_sm_cons (rX12_faultNow_34 hs hm sf_F) sf_sm_nil) 88 0 _ _ σ u h hp
    · cases h
  · cases h
theorem kX12_faultNow (l : Launch) : sf_C l sf_layM yX12_faultNow cX12_faultNow 4 (some .int) (sf_rm 4 167) (fun av σ => (gX12_faultNow av σ).map sf_vI) :=
  sf_met (tab := tX12_faultNow) (J := jX12_faultNow) (fl := sf_fl12) (cl := sf_cl12) (by decide +kernel) ⟨rfl, rfl⟩ sf_RH_I (by decide +kernel) sf_fl12_ok sf_cl12_ok
    (sf_JO_cons (sf_je_V (n := 3) (cs := [10]) (tv := sf_vI) (kX12_takesLetter l) mwX12_takesLetter (by decide +kernel : decode cX12_faultNow 76 = .ok (.invokevirtual 192, 3)) wt_1427 wt_1429 wt_86 (by decide +kernel) (by decide) (by decide) (List.forall_mem_cons.mpr ⟨⟨_, _, rfl⟩, fun _ h => absurd h List.not_mem_nil⟩) (sf_RM_of (by omega) (by omega))) (sf_JO_cons (sf_je_V (n := 3) (cs := [10]) (tv := sf_vI) (kX12_takesNumber l) mwX12_takesNumber (by decide +kernel : decode cX12_faultNow 96 = .ok (.invokevirtual 196, 3)) wt_1442 wt_1444 wt_89 (by decide +kernel) (by decide) (by decide) (List.forall_mem_cons.mpr ⟨⟨_, _, rfl⟩, fun _ h => absurd h List.not_mem_nil⟩) (sf_RM_of (by omega) (by omega))) (sf_JO_cons (sf_je_V (n := 3) (cs := [10]) (tv := sf_vI) (kX12_takesSign l) mwX12_takesSign (by decide +kernel : decode cX12_faultNow 110 = .ok (.invokevirtual 199, 3)) wt_1448 wt_1450 wt_90 (by decide +kernel) (by decide) (by decide) (List.forall_mem_cons.mpr ⟨⟨_, _, rfl⟩, fun _ h => absurd h List.not_mem_nil⟩) (sf_RM_of (by omega) (by omega))) (sf_JO_nil))))
    (fun Wt Post hs hm => rX12_faultNow hs hm)
-- ===== StreamFuserModel.fault()I =====
abbrev tX12_fault : List (Nat × sf_E) := [(0, (.aload_n 0, 1, 0, .null, [], [])), (1, (.invokevirtual 202, 4, 0, .null, [], [])), (4, (.ireturn, 5, 0, .null, [], []))]
noncomputable abbrev jX12_fault : List (Nat × sf_J (Int32 × sf_S)) := [(1, sf_jI sf_layM [10] 1 gX12_faultNow)]
noncomputable def dX12_fault (σ : sf_S) : Option (Int32 × sf_S) :=
  (dX12_faultNow σ).bind fun u1 =>
  some (u1.1, u1.2)
noncomputable abbrev gX12_fault (av : List Value) (σ : sf_S) : Option (Int32 × sf_S) := match av with
  | [.ref q] => (match sf_rv [0] q with | true => dX12_fault σ | false => none)
  | _ => none
set_option maxRecDepth 100000 in
set_option maxHeartbeats 4000000 in
theorem rX12_fault {Wt : Nat → sf_L → List Value → sf_S → Prop} {Post : (Int32 × sf_S) → Prop} (hs : sf_Snd Wt sf_layM sf_hI jX12_fault tX12_fault Post) (hm : sf_mono Wt) : ∀ av σ u, gX12_fault av σ = some u → Post u → (∀ ad, (lg_sl (av.map (sf_v ad))).length ≤ 1) ∧ Wt 0 (sf_ent 0 av) [] σ := by
  intro av σ u h hp
  unfold gX12_fault at h
  split at h
  · rename_i q
    split at h
    · rename_i hq
      have hq : q = 0 := by simpa using sf_rv_mem hq
      subst hq
      refine ⟨fun ad => Nat.le_of_ble_eq_true rfl, ?_⟩
      exact sf_run_ok hs sf_sm_nil 8 0 _ _ σ u h hp
    · cases h
  · cases h
theorem kX12_fault (l : Launch) : sf_C l sf_layM yX12_fault cX12_fault 1 (some .int) (sf_rm 5 190) (fun av σ => (gX12_fault av σ).map sf_vI) :=
  sf_met (tab := tX12_fault) (J := jX12_fault) (fl := sf_fl12) (cl := sf_cl12) (by decide +kernel) ⟨rfl, rfl⟩ sf_RH_I (by decide +kernel) sf_fl12_ok sf_cl12_ok
    (sf_JO_cons (sf_je_V (n := 1) (cs := [10]) (tv := sf_vI) (kX12_faultNow l) mwX12_faultNow (by decide +kernel : decode cX12_fault 1 = .ok (.invokevirtual 202, 3)) wt_1423 wt_1425 wt_85 (by decide +kernel) (by decide) (by decide) (List.forall_mem_cons.mpr ⟨⟨_, _, rfl⟩, fun _ h => absurd h List.not_mem_nil⟩) (sf_RM_of (by omega) (by omega))) (sf_JO_nil))
    (fun Wt Post hs hm => rX12_fault hs hm)
-- ===== StreamFuserModel.hangs(IIZ)V =====
abbrev tX12_hangs : List (Nat × sf_E) := [(0, (.aload_n 0, 1, 0, .null, [], [])), (1, (.getfield 61, 4, 0, .null, [], [(10, 25)])), (4, (.iload_n 1, 5, 0, .null, [], [])), (5, (.aload_n 0, 6, 0, .null, [], [])), (6, (.getfield 61, 9, 0, .null, [], [(10, 25)])), (9, (.iload_n 2, 10, 0, .null, [], [])), (10, (.iaload, 11, 0, .null, [], [])), (11, (.iconst 1, 12, 0, .int (1), [], [])), (12, (.iadd, 13, 0, .null, [], [])), (13, (.iastore, 14, 0, .null, [], [])), (14, (.aload_n 0, 15, 0, .null, [], [])), (15, (.getfield 64, 18, 0, .null, [], [(10, 26)])), (18, (.iload_n 1, 19, 0, .null, [], [])), (19, (.aload_n 0, 20, 0, .null, [], [])), (20, (.getfield 64, 23, 0, .null, [], [(10, 26)])), (23, (.iload_n 2, 24, 0, .null, [], [])), (24, (.iaload, 25, 0, .null, [], [])), (25, (.iload_n 3, 26, 0, .null, [], [])), (26, (.ifCond .eq 7, 29, 33, .null, [], [])), (29, (.iconst 1, 30, 0, .int (1), [], [])), (30, (.goto 4, 33, 34, .null, [], [])), (33, (.iconst 0, 34, 0, .int (0), [], [])), (34, (.iadd, 35, 0, .null, [], [])), (35, (.iastore, 36, 0, .null, [], [])), (36, (.aload_n 0, 37, 0, .null, [], [])), (37, (.getfield 67, 40, 0, .null, [], [(10, 27)])), (40, (.iload_n 1, 41, 0, .null, [], [])), (41, (.iload_n 3, 42, 0, .null, [], [])), (42, (.ifCond .eq 7, 45, 49, .null, [], [])), (45, (.iload_n 2, 46, 0, .null, [], [])), (46, (.goto 9, 49, 55, .null, [], [])), (49, (.aload_n 0, 50, 0, .null, [], [])), (50, (.getfield 67, 53, 0, .null, [], [(10, 27)])), (53, (.iload_n 2, 54, 0, .null, [], [])), (54, (.iaload, 55, 0, .null, [], [])), (55, (.iastore, 56, 0, .null, [], [])), (56, (.return_, 57, 0, .null, [], []))]
noncomputable abbrev jX12_hangs : List (Nat × sf_J sf_S) := []
abbrev wX12_hangs_34 {ρ : Type} (k : Int32 → Int32 → Int32 → Int32 → Int32 → Int32 → sf_S → Option ρ) : sf_M ρ := fun L st σ => sf_lda L 0 fun a0 => sf_eq a0 0 (sf_ldi L 1 fun x1 => sf_ldi L 2 fun x2 => sf_ldi L 3 fun x3 => sf_i1 st fun y0 st => sf_i1 st fun y1 st => sf_i1 st fun y2 st => sf_a1 st fun b3 st => sf_eq b3 19 (sf_nil st (k x1 x2 x3 y0 y1 y2 σ)))
theorem wX12_hangs_34_ok {ρ : Type} {Wt : Nat → sf_L → List Value → sf_S → Prop} {Post : ρ → Prop} (hm : sf_mono Wt) {k : Int32 → Int32 → Int32 → Int32 → Int32 → Int32 → sf_S → Option ρ} (h : ∀ (x1 : Int32) (x2 : Int32) (x3 : Int32) (y0 : Int32) (y1 : Int32) (y2 : Int32) (σ : sf_S) (u : ρ), k x1 x2 x3 y0 y1 y2 σ = some u → Post u → Wt 34 [(0, some (.ref 0)), (1, some (.int x1)), (2, some (.int x2)), (3, some (.int x3))] [.int y0, .int y1, .int y2, .ref 19] σ) : sf_CK Wt Post 34 (wX12_hangs_34 k) := by
  intro L st σ u hf hp
  unfold wX12_hangs_34 at hf
  have hf0 := hf
  obtain ⟨a0, e0, hf1⟩ := sf_lda_inv hf0
  obtain ⟨rfl, hf2⟩ := sf_eq_inv hf1
  obtain ⟨x1, e1, hf3⟩ := sf_ldi_inv hf2
  obtain ⟨x2, e2, hf4⟩ := sf_ldi_inv hf3
  obtain ⟨x3, e3, hf5⟩ := sf_ldi_inv hf4
  obtain ⟨y0, st, rfl, hf6⟩ := sf_i1_inv hf5
  obtain ⟨y1, st, rfl, hf7⟩ := sf_i1_inv hf6
  obtain ⟨y2, st, rfl, hf8⟩ := sf_i1_inv hf7
  obtain ⟨b3, st, rfl, hf9⟩ := sf_a1_inv hf8
  obtain ⟨rfl, hf10⟩ := sf_eq_inv hf9
  obtain ⟨rfl, hz⟩ := sf_nil_inv hf10
  exact hm _ [(0, some (.ref _)), (1, some (.int x1)), (2, some (.int x2)), (3, some (.int x3))] _ _ _ (sf_le_ok (And.intro e0 (And.intro e1 (And.intro e2 (And.intro e3 trivial))))) (h _ _ _ _ _ _ _ _ hz hp)
noncomputable def dX12_hangs_34 (x1 : Int32) (x2 : Int32) (x3 : Int32) (y0 : Int32) (y1 : Int32) (y2 : Int32) (σ : sf_S) : Option sf_S :=
  if sf_in y2 40 then
    let s1 := sf_up σ 19 y2.toNatClampNeg (y1 + y0)
    if x3 = 0 then
      if sf_in x2 40 then
        if sf_in x1 40 then
          let s2 := sf_up s1 20 x1.toNatClampNeg (s1 20 x2.toNatClampNeg)
          some s2
        else
          none
      else
        none
    else
      if sf_in x1 40 then
        let s3 := sf_up s1 20 x1.toNatClampNeg x2
        some s3
      else
        none
  else
    none
set_option maxRecDepth 100000 in
set_option maxHeartbeats 4000000 in
theorem rX12_hangs_34 {Wt : Nat → sf_L → List Value → sf_S → Prop} {Post : sf_S → Prop} (hs : sf_Snd Wt sf_layM sf_hV jX12_hangs tX12_hangs Post) (hm : sf_mono Wt) : sf_CK Wt Post 34 (wX12_hangs_34 (dX12_hangs_34)) := by
  refine wX12_hangs_34_ok hm ?_
  intro x1 x2 x3 y0 y1 y2 σ u h hp
  exact sf_run_ok hs sf_sm_nil 42 34 _ _ σ u h hp
noncomputable def dX12_hangs (x1 : Int32) (x2 : Int32) (x3 : Int32) (σ : sf_S) : Option sf_S :=
  if sf_in x2 40 then
    if sf_in x1 40 then
      let s1 := sf_up σ 18 x1.toNatClampNeg ((σ 18 x2.toNatClampNeg) + (1 : Int32))
      if sf_in x2 40 then
        if x3 = 0 then
          dX12_hangs_34 x1 x2 x3 (0 : Int32) (s1 19 x2.toNatClampNeg) x1 s1
        else
          dX12_hangs_34 x1 x2 x3 (1 : Int32) (s1 19 x2.toNatClampNeg) x1 s1
      else
        none
    else
      none
  else
    none
noncomputable abbrev gX12_hangs (av : List Value) (σ : sf_S) : Option sf_S := match av with
  | [.ref q, .int x1, .int x2, .int x3] => (match sf_rv [0] q with | true => dX12_hangs x1 x2 x3 σ | false => none)
  | _ => none
set_option maxRecDepth 100000 in
set_option maxHeartbeats 4000000 in
theorem rX12_hangs {Wt : Nat → sf_L → List Value → sf_S → Prop} {Post : sf_S → Prop} (hs : sf_Snd Wt sf_layM sf_hV jX12_hangs tX12_hangs Post) (hm : sf_mono Wt) : ∀ av σ u, gX12_hangs av σ = some u → Post u → (∀ ad, (lg_sl (av.map (sf_v ad))).length ≤ 4) ∧ Wt 0 (sf_ent 0 av) [] σ := by
  intro av σ u h hp
  unfold gX12_hangs at h
  split at h
  · rename_i q x1 x2 x3
    split at h
    · rename_i hq
      have hq : q = 0 := by simpa using sf_rv_mem hq
      subst hq
      refine ⟨fun ad => Nat.le_of_ble_eq_true rfl, ?_⟩
      exact sf_run_ok hs (sf_sm_cons (rX12_hangs_34 hs hm) sf_sm_nil) 42 0 _ _ σ u h hp
    · cases h
  · cases h
theorem kX12_hangs (l : Launch) : sf_C l sf_layM yX12_hangs cX12_hangs 4 none (sf_rm 1 100) (fun av σ => (gX12_hangs av σ).map sf_vV) :=
  sf_met (tab := tX12_hangs) (J := jX12_hangs) (fl := sf_fl12) (cl := sf_cl12) (by decide +kernel) ⟨rfl, rfl⟩ sf_RH_V (by decide +kernel) sf_fl12_ok sf_cl12_ok
    (sf_JO_nil)
    (fun Wt Post hs hm => rX12_hangs hs hm)
-- ===== StreamFuserModel.places()V =====
abbrev tX12_places : List (Nat × sf_E) := [(0, (.aload_n 0, 1, 0, .null, [], [])), (1, (.getfield 206, 4, 0, .null, [], [(10, 21)])), (4, (.iconst 1, 5, 0, .int (1), [], [])), (5, (.isub, 6, 0, .null, [], [])), (6, (.istore_n 1, 7, 0, .null, [], [])), (7, (.iload_n 1, 8, 0, .null, [], [])), (8, (.ifCond .lt 131, 11, 139, .null, [], [])), (11, (.aload_n 0, 12, 0, .null, [], [])), (12, (.getfield 40, 15, 0, .null, [], [(10, 17)])), (15, (.iload_n 1, 16, 0, .null, [], [])), (16, (.iaload, 17, 0, .null, [], [])), (17, (.invokestatic 163, 20, 0, .null, [], [])), (20, (.istore_n 2, 21, 0, .null, [], [])), (21, (.iload_n 2, 22, 0, .null, [], [])), (22, (.ifCond .le 14, 25, 36, .null, [], [])), (25, (.aload_n 0, 26, 0, .null, [], [])), (26, (.getfield 52, 29, 0, .null, [], [(10, 22)])), (29, (.iload_n 1, 30, 0, .null, [], [])), (30, (.iconst 1, 31, 0, .int (1), [], [])), (31, (.iadd, 32, 0, .null, [], [])), (32, (.iaload, 33, 0, .null, [], [])), (33, (.goto 4, 36, 37, .null, [], [])), (36, (.iconst 0, 37, 0, .int (0), [], [])), (37, (.istore_n 3, 38, 0, .null, [], [])), (38, (.iload_n 2, 39, 0, .null, [], [])), (39, (.iconst 1, 40, 0, .int (1), [], [])), (40, (.if_icmp .le 16, 43, 56, .null, [], [])), (43, (.aload_n 0, 44, 0, .null, [], [])), (44, (.getfield 52, 47, 0, .null, [], [(10, 22)])), (47, (.iload_n 1, 48, 0, .null, [], [])), (48, (.iconst 1, 49, 0, .int (1), [], [])), (49, (.iadd, 50, 0, .null, [], [])), (50, (.iload_n 3, 51, 0, .null, [], [])), (51, (.iadd, 52, 0, .null, [], [])), (52, (.iaload, 53, 0, .null, [], [])), (53, (.goto 4, 56, 57, .null, [], [])), (56, (.iconst 0, 57, 0, .int (0), [], [])), (57, (.istore 4, 59, 0, .null, [], [])), (59, (.aload_n 0, 60, 0, .null, [], [])), (60, (.getfield 52, 63, 0, .null, [], [(10, 22)])), (63, (.iload_n 1, 64, 0, .null, [], [])), (64, (.iconst 1, 65, 0, .int (1), [], [])), (65, (.iload_n 3, 66, 0, .null, [], [])), (66, (.iadd, 67, 0, .null, [], [])), (67, (.iload 4, 69, 0, .null, [], [])), (69, (.iadd, 70, 0, .null, [], [])), (70, (.iastore, 71, 0, .null, [], [])), (71, (.aload_n 0, 72, 0, .null, [], [])), (72, (.getfield 40, 75, 0, .null, [], [(10, 17)])), (75, (.iload_n 1, 76, 0, .null, [], [])), (76, (.iaload, 77, 0, .null, [], [])), (77, (.bipush 120, 79, 0, .int (120), [], [])), (79, (.if_icmp .ne 7, 82, 86, .null, [], [])), (82, (.iconst 1, 83, 0, .int (1), [], [])), (83, (.goto 4, 86, 87, .null, [], [])), (86, (.iconst 0, 87, 0, .int (0), [], [])), (87, (.istore 5, 89, 0, .null, [], [])), (89, (.aload_n 0, 90, 0, .null, [], [])), (90, (.getfield 55, 93, 0, .null, [], [(10, 23)])), (93, (.iload_n 1, 94, 0, .null, [], [])), (94, (.iload 5, 96, 0, .null, [], [])), (96, (.ifCond .eq 11, 99, 107, .null, [], [])), (99, (.iload_n 1, 100, 0, .null, [], [])), (100, (.iconst 1, 101, 0, .int (1), [], [])), (101, (.iadd, 102, 0, .null, [], [])), (102, (.iload_n 3, 103, 0, .null, [], [])), (103, (.iadd, 104, 0, .null, [], [])), (104, (.goto 6, 107, 110, .null, [], [])), (107, (.iload_n 1, 108, 0, .null, [], [])), (108, (.iconst 1, 109, 0, .int (1), [], [])), (109, (.iadd, 110, 0, .null, [], [])), (110, (.iastore, 111, 0, .null, [], [])), (111, (.aload_n 0, 112, 0, .null, [], [])), (112, (.getfield 58, 115, 0, .null, [], [(10, 24)])), (115, (.iload_n 1, 116, 0, .null, [], [])), (116, (.iload 5, 118, 0, .null, [], [])), (118, (.ifCond .eq 9, 121, 127, .null, [], [])), (121, (.iload_n 1, 122, 0, .null, [], [])), (122, (.iconst 1, 123, 0, .int (1), [], [])), (123, (.iadd, 124, 0, .null, [], [])), (124, (.goto 8, 127, 132, .null, [], [])), (127, (.iload_n 1, 128, 0, .null, [], [])), (128, (.iconst 1, 129, 0, .int (1), [], [])), (129, (.iadd, 130, 0, .null, [], [])), (130, (.iload_n 3, 131, 0, .null, [], [])), (131, (.iadd, 132, 0, .null, [], [])), (132, (.iastore, 133, 0, .null, [], [])), (133, (.iinc 1 (-1), 136, 0, .int (-1), [], [])), (136, (.goto (-129), 139, 7, .null, [], [])), (139, (.aload_n 0, 140, 0, .null, [], [])), (140, (.getfield 61, 143, 0, .null, [], [(10, 25)])), (143, (.iconst 0, 144, 0, .int (0), [], [])), (144, (.iconst 0, 145, 0, .int (0), [], [])), (145, (.iastore, 146, 0, .null, [], [])), (146, (.aload_n 0, 147, 0, .null, [], [])), (147, (.getfield 64, 150, 0, .null, [], [(10, 26)])), (150, (.iconst 0, 151, 0, .int (0), [], [])), (151, (.iconst 0, 152, 0, .int (0), [], [])), (152, (.iastore, 153, 0, .null, [], [])), (153, (.aload_n 0, 154, 0, .null, [], [])), (154, (.getfield 67, 157, 0, .null, [], [(10, 27)])), (157, (.iconst 0, 158, 0, .int (0), [], [])), (158, (.iconst (-1), 159, 0, .int (-1), [], [])), (159, (.iastore, 160, 0, .null, [], [])), (160, (.iconst 0, 161, 0, .int (0), [], [])), (161, (.istore_n 1, 162, 0, .null, [], [])), (162, (.iload_n 1, 163, 0, .null, [], [])), (163, (.aload_n 0, 164, 0, .null, [], [])), (164, (.getfield 206, 167, 0, .null, [], [(10, 21)])), (167, (.if_icmp .ge 67, 170, 234, .null, [], [])), (170, (.aload_n 0, 171, 0, .null, [], [])), (171, (.getfield 40, 174, 0, .null, [], [(10, 17)])), (174, (.iload_n 1, 175, 0, .null, [], [])), (175, (.iaload, 176, 0, .null, [], [])), (176, (.invokestatic 163, 179, 0, .null, [], [])), (179, (.istore_n 2, 180, 0, .null, [], [])), (180, (.iload_n 2, 181, 0, .null, [], [])), (181, (.ifCond .le 15, 184, 196, .null, [], [])), (184, (.aload_n 0, 185, 0, .null, [], [])), (185, (.aload_n 0, 186, 0, .null, [], [])), (186, (.getfield 55, 189, 0, .null, [], [(10, 23)])), (189, (.iload_n 1, 190, 0, .null, [], [])), (190, (.iaload, 191, 0, .null, [], [])), (191, (.iload_n 1, 192, 0, .null, [], [])), (192, (.iconst 0, 193, 0, .int (0), [], [])), (193, (.invokevirtual 209, 196, 0, .null, [], [])), (196, (.iload_n 2, 197, 0, .null, [], [])), (197, (.iconst 1, 198, 0, .int (1), [], [])), (198, (.if_icmp .le 30, 201, 228, .null, [], [])), (201, (.aload_n 0, 202, 0, .null, [], [])), (202, (.aload_n 0, 203, 0, .null, [], [])), (203, (.getfield 58, 206, 0, .null, [], [(10, 24)])), (206, (.iload_n 1, 207, 0, .null, [], [])), (207, (.iaload, 208, 0, .null, [], [])), (208, (.iload_n 1, 209, 0, .null, [], [])), (209, (.aload_n 0, 210, 0, .null, [], [])), (210, (.getfield 40, 213, 0, .null, [], [(10, 17)])), (213, (.iload_n 1, 214, 0, .null, [], [])), (214, (.iaload, 215, 0, .null, [], [])), (215, (.bipush 120, 217, 0, .int (120), [], [])), (217, (.if_icmp .ne 7, 220, 224, .null, [], [])), (220, (.iconst 1, 221, 0, .int (1), [], [])), (221, (.goto 4, 224, 225, .null, [], [])), (224, (.iconst 0, 225, 0, .int (0), [], [])), (225, (.invokevirtual 209, 228, 0, .null, [], [])), (228, (.iinc 1 1, 231, 0, .int (1), [], [])), (231, (.goto (-69), 234, 162, .null, [], [])), (234, (.return_, 235, 0, .null, [], []))]
noncomputable abbrev jX12_places : List (Nat × sf_J sf_S) := [(17, sf_jI sf_layM [] 1 gX12_partsOf), (176, sf_jI sf_layM [] 1 gX12_partsOf), (193, sf_jV sf_layM [10] 4 gX12_hangs), (225, sf_jV sf_layM [10] 4 gX12_hangs)]
abbrev wX12_places_196 {ρ : Type} (k : Int32 → Int32 → sf_S → Option ρ) : sf_M ρ := fun L st σ => sf_lda L 0 fun a0 => sf_eq a0 0 (sf_ldi L 1 fun x1 => sf_ldi L 2 fun x2 => sf_nil st (k x1 x2 σ))
theorem wX12_places_196_ok {ρ : Type} {Wt : Nat → sf_L → List Value → sf_S → Prop} {Post : ρ → Prop} (hm : sf_mono Wt) {k : Int32 → Int32 → sf_S → Option ρ} (h : ∀ (x1 : Int32) (x2 : Int32) (σ : sf_S) (u : ρ), k x1 x2 σ = some u → Post u → Wt 196 [(0, some (.ref 0)), (1, some (.int x1)), (2, some (.int x2))] [] σ) : sf_CK Wt Post 196 (wX12_places_196 k) := by
  intro L st σ u hf hp
  unfold wX12_places_196 at hf
  have hf0 := hf
  obtain ⟨a0, e0, hf1⟩ := sf_lda_inv hf0
  obtain ⟨rfl, hf2⟩ := sf_eq_inv hf1
  obtain ⟨x1, e1, hf3⟩ := sf_ldi_inv hf2
  obtain ⟨x2, e2, hf4⟩ := sf_ldi_inv hf3
  obtain ⟨rfl, hz⟩ := sf_nil_inv hf4
  exact hm _ [(0, some (.ref _)), (1, some (.int x1)), (2, some (.int x2))] _ _ _ (sf_le_ok (And.intro e0 (And.intro e1 (And.intro e2 trivial)))) (h _ _ _ _ hz hp)
abbrev wX12_places_162 {ρ : Type} (k : Int32 → sf_S → Option ρ) : sf_M ρ := fun L st σ => sf_lda L 0 fun a0 => sf_eq a0 0 (sf_ldi L 1 fun x1 => sf_nil st (k x1 σ))
theorem wX12_places_162_ok {ρ : Type} {Wt : Nat → sf_L → List Value → sf_S → Prop} {Post : ρ → Prop} (hm : sf_mono Wt) {k : Int32 → sf_S → Option ρ} (h : ∀ (x1 : Int32) (σ : sf_S) (u : ρ), k x1 σ = some u → Post u → Wt 162 [(0, some (.ref 0)), (1, some (.int x1))] [] σ) : sf_CK Wt Post 162 (wX12_places_162 k) := by
  intro L st σ u hf hp
  unfold wX12_places_162 at hf
  have hf0 := hf
  obtain ⟨a0, e0, hf1⟩ := sf_lda_inv hf0
  obtain ⟨rfl, hf2⟩ := sf_eq_inv hf1
  obtain ⟨x1, e1, hf3⟩ := sf_ldi_inv hf2
  obtain ⟨rfl, hz⟩ := sf_nil_inv hf3
  exact hm _ [(0, some (.ref _)), (1, some (.int x1))] _ _ _ (sf_le_ok (And.intro e0 (And.intro e1 trivial))) (h _ _ _ hz hp)
abbrev wX12_places_110 {ρ : Type} (k : Int32 → Int32 → Int32 → Int32 → Int32 → sf_S → Option ρ) : sf_M ρ := fun L st σ => sf_lda L 0 fun a0 => sf_eq a0 0 (sf_ldi L 1 fun x1 => sf_ldi L 3 fun x3 => sf_ldi L 5 fun x5 => sf_i1 st fun y0 st => sf_i1 st fun y1 st => sf_a1 st fun b2 st => sf_eq b2 16 (sf_nil st (k x1 x3 x5 y0 y1 σ)))
theorem wX12_places_110_ok {ρ : Type} {Wt : Nat → sf_L → List Value → sf_S → Prop} {Post : ρ → Prop} (hm : sf_mono Wt) {k : Int32 → Int32 → Int32 → Int32 → Int32 → sf_S → Option ρ} (h : ∀ (x1 : Int32) (x3 : Int32) (x5 : Int32) (y0 : Int32) (y1 : Int32) (σ : sf_S) (u : ρ), k x1 x3 x5 y0 y1 σ = some u → Post u → Wt 110 [(0, some (.ref 0)), (1, some (.int x1)), (3, some (.int x3)), (5, some (.int x5))] [.int y0, .int y1, .ref 16] σ) : sf_CK Wt Post 110 (wX12_places_110 k) := by
  intro L st σ u hf hp
  unfold wX12_places_110 at hf
  have hf0 := hf
  obtain ⟨a0, e0, hf1⟩ := sf_lda_inv hf0
  obtain ⟨rfl, hf2⟩ := sf_eq_inv hf1
  obtain ⟨x1, e1, hf3⟩ := sf_ldi_inv hf2
  obtain ⟨x3, e3, hf4⟩ := sf_ldi_inv hf3
  obtain ⟨x5, e5, hf5⟩ := sf_ldi_inv hf4
  obtain ⟨y0, st, rfl, hf6⟩ := sf_i1_inv hf5
  obtain ⟨y1, st, rfl, hf7⟩ := sf_i1_inv hf6
  obtain ⟨b2, st, rfl, hf8⟩ := sf_a1_inv hf7
  obtain ⟨rfl, hf9⟩ := sf_eq_inv hf8
  obtain ⟨rfl, hz⟩ := sf_nil_inv hf9
  exact hm _ [(0, some (.ref _)), (1, some (.int x1)), (3, some (.int x3)), (5, some (.int x5))] _ _ _ (sf_le_ok (And.intro e0 (And.intro e1 (And.intro e3 (And.intro e5 trivial))))) (h _ _ _ _ _ _ _ hz hp)
abbrev wX12_places_87 {ρ : Type} (k : Int32 → Int32 → Int32 → sf_S → Option ρ) : sf_M ρ := fun L st σ => sf_lda L 0 fun a0 => sf_eq a0 0 (sf_ldi L 1 fun x1 => sf_ldi L 3 fun x3 => sf_i1 st fun y0 st => sf_nil st (k x1 x3 y0 σ))
theorem wX12_places_87_ok {ρ : Type} {Wt : Nat → sf_L → List Value → sf_S → Prop} {Post : ρ → Prop} (hm : sf_mono Wt) {k : Int32 → Int32 → Int32 → sf_S → Option ρ} (h : ∀ (x1 : Int32) (x3 : Int32) (y0 : Int32) (σ : sf_S) (u : ρ), k x1 x3 y0 σ = some u → Post u → Wt 87 [(0, some (.ref 0)), (1, some (.int x1)), (3, some (.int x3))] [.int y0] σ) : sf_CK Wt Post 87 (wX12_places_87 k) := by
  intro L st σ u hf hp
  unfold wX12_places_87 at hf
  have hf0 := hf
  obtain ⟨a0, e0, hf1⟩ := sf_lda_inv hf0
  obtain ⟨rfl, hf2⟩ := sf_eq_inv hf1
  obtain ⟨x1, e1, hf3⟩ := sf_ldi_inv hf2
  obtain ⟨x3, e3, hf4⟩ := sf_ldi_inv hf3
  obtain ⟨y0, st, rfl, hf5⟩ := sf_i1_inv hf4
  obtain ⟨rfl, hz⟩ := sf_nil_inv hf5
  exact hm _ [(0, some (.ref _)), (1, some (.int x1)), (3, some (.int x3))] _ _ _ (sf_le_ok (And.intro e0 (And.intro e1 (And.intro e3 trivial)))) (h _ _ _ _ _ hz hp)
abbrev wX12_places_57 {ρ : Type} (k : Int32 → Int32 → Int32 → sf_S → Option ρ) : sf_M ρ := fun L st σ => sf_lda L 0 fun a0 => sf_eq a0 0 (sf_ldi L 1 fun x1 => sf_ldi L 3 fun x3 => sf_i1 st fun y0 st => sf_nil st (k x1 x3 y0 σ))
theorem wX12_places_57_ok {ρ : Type} {Wt : Nat → sf_L → List Value → sf_S → Prop} {Post : ρ → Prop} (hm : sf_mono Wt) {k : Int32 → Int32 → Int32 → sf_S → Option ρ} (h : ∀ (x1 : Int32) (x3 : Int32) (y0 : Int32) (σ : sf_S) (u : ρ), k x1 x3 y0 σ = some u → Post u → Wt 57 [(0, some (.ref 0)), (1, some (.int x1)), (3, some (.int x3))] [.int y0] σ) : sf_CK Wt Post 57 (wX12_places_57 k) := by
  intro L st σ u hf hp
  unfold wX12_places_57 at hf
  have hf0 := hf
  obtain ⟨a0, e0, hf1⟩ := sf_lda_inv hf0
  obtain ⟨rfl, hf2⟩ := sf_eq_inv hf1
  obtain ⟨x1, e1, hf3⟩ := sf_ldi_inv hf2
  obtain ⟨x3, e3, hf4⟩ := sf_ldi_inv hf3
  obtain ⟨y0, st, rfl, hf5⟩ := sf_i1_inv hf4
  obtain ⟨rfl, hz⟩ := sf_nil_inv hf5
  exact hm _ [(0, some (.ref _)), (1, some (.int x1)), (3, some (.int x3))] _ _ _ (sf_le_ok (And.intro e0 (And.intro e1 (And.intro e3 trivial)))) (h _ _ _ _ _ hz hp)
abbrev wX12_places_37 {ρ : Type} (k : Int32 → Int32 → Int32 → sf_S → Option ρ) : sf_M ρ := fun L st σ => sf_lda L 0 fun a0 => sf_eq a0 0 (sf_ldi L 1 fun x1 => sf_ldi L 2 fun x2 => sf_i1 st fun y0 st => sf_nil st (k x1 x2 y0 σ))
theorem wX12_places_37_ok {ρ : Type} {Wt : Nat → sf_L → List Value → sf_S → Prop} {Post : ρ → Prop} (hm : sf_mono Wt) {k : Int32 → Int32 → Int32 → sf_S → Option ρ} (h : ∀ (x1 : Int32) (x2 : Int32) (y0 : Int32) (σ : sf_S) (u : ρ), k x1 x2 y0 σ = some u → Post u → Wt 37 [(0, some (.ref 0)), (1, some (.int x1)), (2, some (.int x2))] [.int y0] σ) : sf_CK Wt Post 37 (wX12_places_37 k) := by
  intro L st σ u hf hp
  unfold wX12_places_37 at hf
  have hf0 := hf
  obtain ⟨a0, e0, hf1⟩ := sf_lda_inv hf0
  obtain ⟨rfl, hf2⟩ := sf_eq_inv hf1
  obtain ⟨x1, e1, hf3⟩ := sf_ldi_inv hf2
  obtain ⟨x2, e2, hf4⟩ := sf_ldi_inv hf3
  obtain ⟨y0, st, rfl, hf5⟩ := sf_i1_inv hf4
  obtain ⟨rfl, hz⟩ := sf_nil_inv hf5
  exact hm _ [(0, some (.ref _)), (1, some (.int x1)), (2, some (.int x2))] _ _ _ (sf_le_ok (And.intro e0 (And.intro e1 (And.intro e2 trivial)))) (h _ _ _ _ _ hz hp)
abbrev wX12_places_7 {ρ : Type} (k : Int32 → sf_S → Option ρ) : sf_M ρ := fun L st σ => sf_lda L 0 fun a0 => sf_eq a0 0 (sf_ldi L 1 fun x1 => sf_nil st (k x1 σ))
theorem wX12_places_7_ok {ρ : Type} {Wt : Nat → sf_L → List Value → sf_S → Prop} {Post : ρ → Prop} (hm : sf_mono Wt) {k : Int32 → sf_S → Option ρ} (h : ∀ (x1 : Int32) (σ : sf_S) (u : ρ), k x1 σ = some u → Post u → Wt 7 [(0, some (.ref 0)), (1, some (.int x1))] [] σ) : sf_CK Wt Post 7 (wX12_places_7 k) := by
  intro L st σ u hf hp
  unfold wX12_places_7 at hf
  have hf0 := hf
  obtain ⟨a0, e0, hf1⟩ := sf_lda_inv hf0
  obtain ⟨rfl, hf2⟩ := sf_eq_inv hf1
  obtain ⟨x1, e1, hf3⟩ := sf_ldi_inv hf2
  obtain ⟨rfl, hz⟩ := sf_nil_inv hf3
  exact hm _ [(0, some (.ref _)), (1, some (.int x1))] _ _ _ (sf_le_ok (And.intro e0 (And.intro e1 trivial))) (h _ _ _ hz hp)
noncomputable def dX12_places_196 (K162 : Int32 → sf_S → Option sf_S) (x1 : Int32) (x2 : Int32) (σ : sf_S) : Option sf_S :=
  if x2 ≤ (1 : Int32) then
    K162 (x1 + (1 : Int32)) σ
  else
    if sf_in x1 40 then
      if sf_in x1 40 then
        if ¬ (σ 11 x1.toNatClampNeg) = (120 : Int32) then
          (dX12_hangs (σ 17 x1.toNatClampNeg) x1 (0 : Int32) σ).bind fun u1 =>
          K162 (x1 + (1 : Int32)) u1
        else
          (dX12_hangs (σ 17 x1.toNatClampNeg) x1 (1 : Int32) σ).bind fun u2 =>
          K162 (x1 + (1 : Int32)) u2
      else
        none
    else
      none
set_option maxRecDepth 100000 in
set_option maxHeartbeats 4000000 in
theorem rX12_places_196 {Wt : Nat → sf_L → List Value → sf_S → Prop} {Post : sf_S → Prop} (hs : sf_Snd Wt sf_layM sf_hV jX12_places tX12_places Post) (hm : sf_mono Wt) {K162 : Int32 → sf_S → Option sf_S} (hK162 : sf_CK Wt Post 162 (wX12_places_162 K162)) : sf_CK Wt Post 196 (wX12_places_196 (dX12_places_196 K162)) := by
  refine wX12_places_196_ok hm ?_
  intro x1 x2 σ u h hp
  exact sf_run_ok hs (sf_sm_cons hK162 sf_sm_nil) 153 196 _ _ σ u h hp
noncomputable def dX12_places_162 : Nat → Int32 → sf_S → Option sf_S
  | 0 => fun _ _ => none
  | n + 1 => fun x1 σ =>
    if (σ 0 21) ≤ x1 then
      some σ
    else
      if sf_in x1 40 then
        (dX12_partsOf (σ 11 x1.toNatClampNeg) σ).bind fun u1 =>
        if u1.1 ≤ 0 then
          dX12_places_196 (dX12_places_162 n) x1 u1.1 u1.2
        else
          if sf_in x1 40 then
            (dX12_hangs (u1.2 16 x1.toNatClampNeg) x1 (0 : Int32) u1.2).bind fun u2 =>
            dX12_places_196 (dX12_places_162 n) x1 u1.1 u2
          else
            none
      else
        none
set_option maxRecDepth 100000 in
set_option maxHeartbeats 4000000 in
theorem rX12_places_162 {Wt : Nat → sf_L → List Value → sf_S → Prop} {Post : sf_S → Prop} (hs : sf_Snd Wt sf_layM sf_hV jX12_places tX12_places Post) (hm : sf_mono Wt) : ∀ n : Nat, sf_CK Wt Post 162 (wX12_places_162 (dX12_places_162 n)) := by
  intro n
  induction n with
  | zero => exact wX12_places_162_ok hm (fun x1 σ u h _ => by simp [dX12_places_162] at h)
  | succ n ih =>
    refine wX12_places_162_ok hm ?_
    intro x1 σ u h hp
    exact sf_run_ok hs (sf_sm_cons (rX12_places_196 hs hm ih) sf_sm_nil) 153 162 _ _ σ u h hp
noncomputable def dX12_places_110 (K7 : Int32 → sf_S → Option sf_S) (x1 : Int32) (x3 : Int32) (x5 : Int32) (y0 : Int32) (y1 : Int32) (σ : sf_S) : Option sf_S :=
  if sf_in y1 40 then
    let s1 := sf_up σ 16 y1.toNatClampNeg y0
    if x5 = 0 then
      if sf_in x1 40 then
        let s2 := sf_up s1 17 x1.toNatClampNeg ((x1 + (1 : Int32)) + x3)
        K7 (x1 + (-1 : Int32)) s2
      else
        none
    else
      if sf_in x1 40 then
        let s3 := sf_up s1 17 x1.toNatClampNeg (x1 + (1 : Int32))
        K7 (x1 + (-1 : Int32)) s3
      else
        none
  else
    none
set_option maxRecDepth 100000 in
set_option maxHeartbeats 4000000 in
theorem rX12_places_110 {Wt : Nat → sf_L → List Value → sf_S → Prop} {Post : sf_S → Prop} (hs : sf_Snd Wt sf_layM sf_hV jX12_places tX12_places Post) (hm : sf_mono Wt) {K7 : Int32 → sf_S → Option sf_S} (hK7 : sf_CK Wt Post 7 (wX12_places_7 K7)) : sf_CK Wt Post 110 (wX12_places_110 (dX12_places_110 K7)) := by
  refine wX12_places_110_ok hm ?_
  intro x1 x3 x5 y0 y1 σ u h hp
  exact sf_run_ok hs (sf_sm_cons hK7 sf_sm_nil) 153 110 _ _ σ u h hp
noncomputable def dX12_places_87 (K7 : Int32 → sf_S → Option sf_S) (x1 : Int32) (x3 : Int32) (y0 : Int32) (σ : sf_S) : Option sf_S :=
  if y0 = 0 then
    dX12_places_110 K7 x1 x3 y0 (x1 + (1 : Int32)) x1 σ
  else
    dX12_places_110 K7 x1 x3 y0 ((x1 + (1 : Int32)) + x3) x1 σ
set_option maxRecDepth 100000 in
set_option maxHeartbeats 4000000 in
theorem rX12_places_87 {Wt : Nat → sf_L → List Value → sf_S → Prop} {Post : sf_S → Prop} (hs : sf_Snd Wt sf_layM sf_hV jX12_places tX12_places Post) (hm : sf_mono Wt) {K7 : Int32 → sf_S → Option sf_S} (hK7 : sf_CK Wt Post 7 (wX12_places_7 K7)) : sf_CK Wt Post 87 (wX12_places_87 (dX12_places_87 K7)) := by
  refine wX12_places_87_ok hm ?_
  intro x1 x3 y0 σ u h hp
  exact sf_run_ok hs (sf_sm_cons (rX12_places_110 hs hm hK7) sf_sm_nil) 153 87 _ _ σ u h hp
noncomputable def dX12_places_57 (K7 : Int32 → sf_S → Option sf_S) (x1 : Int32) (x3 : Int32) (y0 : Int32) (σ : sf_S) : Option sf_S :=
  if sf_in x1 40 then
    let s1 := sf_up σ 15 x1.toNatClampNeg (((1 : Int32) + x3) + y0)
    if sf_in x1 40 then
      if ¬ (s1 11 x1.toNatClampNeg) = (120 : Int32) then
        dX12_places_87 K7 x1 x3 (0 : Int32) s1
      else
        dX12_places_87 K7 x1 x3 (1 : Int32) s1
    else
      none
  else
    none
set_option maxRecDepth 100000 in
set_option maxHeartbeats 4000000 in
theorem rX12_places_57 {Wt : Nat → sf_L → List Value → sf_S → Prop} {Post : sf_S → Prop} (hs : sf_Snd Wt sf_layM sf_hV jX12_places tX12_places Post) (hm : sf_mono Wt) {K7 : Int32 → sf_S → Option sf_S} (hK7 : sf_CK Wt Post 7 (wX12_places_7 K7)) : sf_CK Wt Post 57 (wX12_places_57 (dX12_places_57 K7)) := by
  refine wX12_places_57_ok hm ?_
  intro x1 x3 y0 σ u h hp
  exact sf_run_ok hs (sf_sm_cons (rX12_places_87 hs hm hK7) sf_sm_nil) 153 57 _ _ σ u h hp
noncomputable def dX12_places_37 (K7 : Int32 → sf_S → Option sf_S) (x1 : Int32) (x2 : Int32) (y0 : Int32) (σ : sf_S) : Option sf_S :=
  if x2 ≤ (1 : Int32) then
    dX12_places_57 K7 x1 y0 (0 : Int32) σ
  else
    let v1 := ((x1 + (1 : Int32)) + y0)
    if sf_in v1 40 then
      dX12_places_57 K7 x1 y0 (σ 15 v1.toNatClampNeg) σ
    else
      none
set_option maxRecDepth 100000 in
set_option maxHeartbeats 4000000 in
theorem rX12_places_37 {Wt : Nat → sf_L → List Value → sf_S → Prop} {Post : sf_S → Prop} (hs : sf_Snd Wt sf_layM sf_hV jX12_places tX12_places Post) (hm : sf_mono Wt) {K7 : Int32 → sf_S → Option sf_S} (hK7 : sf_CK Wt Post 7 (wX12_places_7 K7)) : sf_CK Wt Post 37 (wX12_places_37 (dX12_places_37 K7)) := by
  refine wX12_places_37_ok hm ?_
  intro x1 x2 y0 σ u h hp
  exact sf_run_ok hs (sf_sm_cons (rX12_places_57 hs hm hK7) sf_sm_nil) 153 37 _ _ σ u h hp
noncomputable def dX12_places_7 : Nat → Int32 → sf_S → Option sf_S
  | 0 => fun _ _ => none
  | n + 1 => fun x1 σ =>
    if x1 < 0 then
      if sf_in (0 : Int32) 40 then
        let s1 := sf_up σ 18 ((0 : Int32)).toNatClampNeg (0 : Int32)
        if sf_in (0 : Int32) 40 then
          let s2 := sf_up s1 19 ((0 : Int32)).toNatClampNeg (0 : Int32)
          if sf_in (0 : Int32) 40 then
            let s3 := sf_up s2 20 ((0 : Int32)).toNatClampNeg (-1 : Int32)
            dX12_places_162 sf_F (0 : Int32) s3
          else
            none
        else
          none
      else
        none
    else
      if sf_in x1 40 then
        (dX12_partsOf (σ 11 x1.toNatClampNeg) σ).bind fun u4 =>
        if u4.1 ≤ 0 then
          dX12_places_37 (dX12_places_7 n) x1 u4.1 (0 : Int32) u4.2
        else
          if sf_in (x1 + (1 : Int32)) 40 then
            dX12_places_37 (dX12_places_7 n) x1 u4.1 (u4.2 15 ((x1 + (1 : Int32))).toNatClampNeg) u4.2
          else
            none
      else
        none
set_option maxRecDepth 100000 in
set_option maxHeartbeats 4000000 in
theorem rX12_places_7 {Wt : Nat → sf_L → List Value → sf_S → Prop} {Post : sf_S → Prop} (hs : sf_Snd Wt sf_layM sf_hV jX12_places tX12_places Post) (hm : sf_mono Wt) : ∀ n : Nat, sf_CK Wt Post 7 (wX12_places_7 (dX12_places_7 n)) := by
  intro n
  induction n with
  | zero => exact wX12_places_7_ok hm (fun x1 σ u h _ => by simp [dX12_places_7] at h)
  | succ n ih =>
    refine wX12_places_7_ok hm ?_
    intro x1 σ u h hp
    exact sf_run_ok hs (sf_sm_cons (rX12_places_37 hs hm ih) (sf_sm_cons (rX12_places_162 hs hm sf_F) sf_sm_nil)) 153 7 _ _ σ u h hp
noncomputable def dX12_places (σ : sf_S) : Option sf_S :=
  let v1 := ((σ 0 21) - (1 : Int32))
  dX12_places_7 sf_F v1 σ
noncomputable abbrev gX12_places (av : List Value) (σ : sf_S) : Option sf_S := match av with
  | [.ref q] => (match sf_rv [0] q with | true => dX12_places σ | false => none)
  | _ => none
set_option maxRecDepth 100000 in
set_option maxHeartbeats 4000000 in
theorem rX12_places {Wt : Nat → sf_L → List Value → sf_S → Prop} {Post : sf_S → Prop} (hs : sf_Snd Wt sf_layM sf_hV jX12_places tX12_places Post) (hm : sf_mono Wt) : ∀ av σ u, gX12_places av σ = some u → Post u → (∀ ad, (lg_sl (av.map (sf_v ad))).length ≤ 6) ∧ Wt 0 (sf_ent 0 av) [] σ := by
  intro av σ u h hp
  unfold gX12_places at h
  split at h
  · rename_i q
    split at h
    · rename_i hq
      have hq : q = 0 := by simpa using sf_rv_mem hq
      subst hq
      refine ⟨fun ad => Nat.le_of_ble_eq_true rfl, ?_⟩
      exact sf_run_ok hs (sf_sm_cons (rX12_places_7 hs hm sf_F) sf_sm_nil) 153 0 _ _ σ u h hp
    · cases h
  · cases h
theorem kX12_places (l : Launch) : sf_C l sf_layM yX12_places cX12_places 6 none (sf_rm 2 123) (fun av σ => (gX12_places av σ).map sf_vV) :=
  sf_met (tab := tX12_places) (J := jX12_places) (fl := sf_fl12) (cl := sf_cl12) (by decide +kernel) ⟨rfl, rfl⟩ sf_RH_V (by decide +kernel) sf_fl12_ok sf_cl12_ok
    (sf_JO_cons (sf_je_S (n := 1) (tv := sf_vI) (kX12_partsOf l) mwX12_partsOf (by decide +kernel : decode cX12_places 17 = .ok (.invokestatic 163, 3)) wt_1431 wt_1432 (by decide +kernel) (sf_RM_of (by omega) (by omega))) (sf_JO_cons (sf_je_S (n := 1) (tv := sf_vI) (kX12_partsOf l) mwX12_partsOf (by decide +kernel : decode cX12_places 176 = .ok (.invokestatic 163, 3)) wt_1431 wt_1432 (by decide +kernel) (sf_RM_of (by omega) (by omega))) (sf_JO_cons (sf_je_V (n := 4) (cs := [10]) (tv := sf_vV) (kX12_hangs l) mwX12_hangs (by decide +kernel : decode cX12_places 193 = .ok (.invokevirtual 209, 3)) wt_1461 wt_1463 wt_92 (by decide +kernel) (by decide) (by decide) (List.forall_mem_cons.mpr ⟨⟨_, _, rfl⟩, fun _ h => absurd h List.not_mem_nil⟩) (sf_RM_of (by omega) (by omega))) (sf_JO_cons (sf_je_V (n := 4) (cs := [10]) (tv := sf_vV) (kX12_hangs l) mwX12_hangs (by decide +kernel : decode cX12_places 225 = .ok (.invokevirtual 209, 3)) wt_1461 wt_1463 wt_92 (by decide +kernel) (by decide) (by decide) (List.forall_mem_cons.mpr ⟨⟨_, _, rfl⟩, fun _ h => absurd h List.not_mem_nil⟩) (sf_RM_of (by omega) (by omega))) (sf_JO_nil)))))
    (fun Wt Post hs hm => rX12_places hs hm)
