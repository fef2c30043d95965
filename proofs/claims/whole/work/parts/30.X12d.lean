/-! ===== 30.X12, goes on ===== -/
-- ===== StreamFuserModel.changesRow(I)V =====
abbrev tX12_changesRow : List (Nat × sf_E) := [(0, (.aload_n 0, 1, 0, .null, [], [])), (1, (.getfield 40, 4, 0, .null, [], [(10, 17)])), (4, (.iload_n 1, 5, 0, .null, [], [])), (5, (.iaload, 6, 0, .null, [], [])), (6, (.istore_n 2, 7, 0, .null, [], [])), (7, (.aload_n 0, 8, 0, .null, [], [])), (8, (.getfield 55, 11, 0, .null, [], [(10, 23)])), (11, (.iload_n 1, 12, 0, .null, [], [])), (12, (.iaload, 13, 0, .null, [], [])), (13, (.istore_n 3, 14, 0, .null, [], [])), (14, (.iconst 1, 15, 0, .int (1), [], [])), (15, (.istore 4, 17, 0, .null, [], [])), (17, (.iconst 0, 18, 0, .int (0), [], [])), (18, (.istore 5, 20, 0, .null, [], [])), (20, (.iload 5, 22, 0, .null, [], [])), (22, (.aload_n 0, 23, 0, .null, [], [])), (23, (.getfield 100, 26, 0, .null, [], [(10, 50)])), (26, (.iload_n 3, 27, 0, .null, [], [])), (27, (.iaload, 28, 0, .null, [], [])), (28, (.if_icmp .ge 140, 31, 168, .null, [], [])), (31, (.iload 4, 33, 0, .null, [], [])), (33, (.ifCond .eq 135, 36, 168, .null, [], [])), (36, (.aload_n 0, 37, 0, .null, [], [])), (37, (.getfield 294, 40, 0, .null, [], [(10, 35)])), (40, (.ifCond .ne 128, 43, 168, .null, [], [])), (43, (.aload_n 0, 44, 0, .null, [], [])), (44, (.getfield 97, 47, 0, .null, [], [(10, 49)])), (47, (.bipush 60, 49, 0, .int (60), [], [])), (49, (.iload_n 3, 50, 0, .null, [], [])), (50, (.imul, 51, 0, .null, [], [])), (51, (.iload 5, 53, 0, .null, [], [])), (53, (.iadd, 54, 0, .null, [], [])), (54, (.iaload, 55, 0, .null, [], [])), (55, (.istore 6, 57, 0, .null, [], [])), (57, (.iload_n 2, 58, 0, .null, [], [])), (58, (.bipush 116, 60, 0, .int (116), [], [])), (60, (.if_icmp .ne 22, 63, 82, .null, [], [])), (63, (.iload 5, 65, 0, .null, [], [])), (65, (.aload_n 0, 66, 0, .null, [], [])), (66, (.getfield 46, 69, 0, .null, [], [(10, 19)])), (69, (.iload_n 1, 70, 0, .null, [], [])), (70, (.iaload, 71, 0, .null, [], [])), (71, (.if_icmp .ge 7, 74, 78, .null, [], [])), (74, (.iconst 1, 75, 0, .int (1), [], [])), (75, (.goto 39, 78, 114, .null, [], [])), (78, (.iconst 0, 79, 0, .int (0), [], [])), (79, (.goto 35, 82, 114, .null, [], [])), (82, (.iload_n 2, 83, 0, .null, [], [])), (83, (.bipush 100, 85, 0, .int (100), [], [])), (85, (.if_icmp .ne 22, 88, 107, .null, [], [])), (88, (.iload 5, 90, 0, .null, [], [])), (90, (.aload_n 0, 91, 0, .null, [], [])), (91, (.getfield 46, 94, 0, .null, [], [(10, 19)])), (94, (.iload_n 1, 95, 0, .null, [], [])), (95, (.iaload, 96, 0, .null, [], [])), (96, (.if_icmp .lt 7, 99, 103, .null, [], [])), (99, (.iconst 1, 100, 0, .int (1), [], [])), (100, (.goto 14, 103, 114, .null, [], [])), (103, (.iconst 0, 104, 0, .int (0), [], [])), (104, (.goto 10, 107, 114, .null, [], [])), (107, (.aload_n 0, 108, 0, .null, [], [])), (108, (.iload_n 1, 109, 0, .null, [], [])), (109, (.iload 6, 111, 0, .null, [], [])), (111, (.invokevirtual 331, 114, 0, .null, [], [])), (114, (.istore 7, 116, 0, .null, [], [])), (116, (.iload_n 2, 117, 0, .null, [], [])), (117, (.bipush 119, 119, 0, .int (119), [], [])), (119, (.if_icmp .ne 8, 122, 127, .null, [], [])), (122, (.iload 7, 124, 0, .null, [], [])), (124, (.ifCond .eq 7, 127, 131, .null, [], [])), (127, (.iconst 1, 128, 0, .int (1), [], [])), (128, (.goto 4, 131, 132, .null, [], [])), (131, (.iconst 0, 132, 0, .int (0), [], [])), (132, (.istore 4, 134, 0, .null, [], [])), (134, (.iload 7, 136, 0, .null, [], [])), (136, (.ifCond .eq 26, 139, 162, .null, [], [])), (139, (.aload_n 0, 140, 0, .null, [], [])), (140, (.iload_n 1, 141, 0, .null, [], [])), (141, (.iload 6, 143, 0, .null, [], [])), (143, (.invokevirtual 340, 146, 0, .null, [], [])), (146, (.istore 8, 148, 0, .null, [], [])), (148, (.aload_n 0, 149, 0, .null, [], [])), (149, (.getfield 294, 152, 0, .null, [], [(10, 35)])), (152, (.ifCond .ne 10, 155, 162, .null, [], [])), (155, (.aload_n 0, 156, 0, .null, [], [])), (156, (.iload_n 1, 157, 0, .null, [], [])), (157, (.iload 8, 159, 0, .null, [], [])), (159, (.invokevirtual 367, 162, 0, .null, [], [])), (162, (.iinc 5 1, 165, 0, .int (1), [], [])), (165, (.goto (-145), 168, 20, .null, [], [])), (168, (.return_, 169, 0, .null, [], []))]
noncomputable abbrev jX12_changesRow : List (Nat × sf_J sf_S) := [(111, sf_jI sf_layM [10] 3 gX12_passes), (143, sf_jI sf_layM [10] 3 gX12_made), (159, sf_jV sf_layM [10] 3 gX12_adds)]
abbrev wX12_changesRow_132 {ρ : Type} (k : Int32 → Int32 → Int32 → Int32 → Int32 → Int32 → Int32 → sf_S → Option ρ) : sf_M ρ := fun L st σ => sf_lda L 0 fun a0 => sf_eq a0 0 (sf_ldi L 1 fun x1 => sf_ldi L 2 fun x2 => sf_ldi L 3 fun x3 => sf_ldi L 5 fun x5 => sf_ldi L 6 fun x6 => sf_ldi L 7 fun x7 => sf_i1 st fun y0 st => sf_nil st (k x1 x2 x3 x5 x6 x7 y0 σ))
theorem wX12_changesRow_132_ok {ρ : Type} {Wt : Nat → sf_L → List Value → sf_S → Prop} {Post : ρ → Prop} (hm : sf_mono Wt) {k : Int32 → Int32 → Int32 → Int32 → Int32 → Int32 → Int32 → sf_S → Option ρ} (h : ∀ (x1 : Int32) (x2 : Int32) (x3 : Int32) (x5 : Int32) (x6 : Int32) (x7 : Int32) (y0 : Int32) (σ : sf_S) (u : ρ), k x1 x2 x3 x5 x6 x7 y0 σ = some u → Post u → Wt 132 [(0, some (.ref 0)), (1, some (.int x1)), (2, some (.int x2)), (3, some (.int x3)), (5, some (.int x5)), (6, some (.int x6)), (7, some (.int x7))] [.int y0] σ) : sf_CK Wt Post 132 (wX12_changesRow_132 k) := by
  intro L st σ u hf hp
  unfold wX12_changesRow_132 at hf
  have hf0 := hf
  obtain ⟨a0, e0, hf1⟩ := sf_lda_inv hf0
  obtain ⟨rfl, hf2⟩ := sf_eq_inv hf1
  obtain ⟨x1, e1, hf3⟩ := sf_ldi_inv hf2
  obtain ⟨x2, e2, hf4⟩ := sf_ldi_inv hf3
  obtain ⟨x3, e3, hf5⟩ := sf_ldi_inv hf4
  obtain ⟨x5, e5, hf6⟩ := sf_ldi_inv hf5
  obtain ⟨x6, e6, hf7⟩ := sf_ldi_inv hf6
  obtain ⟨x7, e7, hf8⟩ := sf_ldi_inv hf7
  obtain ⟨y0, st, rfl, hf9⟩ := sf_i1_inv hf8
  obtain ⟨rfl, hz⟩ := sf_nil_inv hf9
  exact hm _ [(0, some (.ref _)), (1, some (.int x1)), (2, some (.int x2)), (3, some (.int x3)), (5, some (.int x5)), (6, some (.int x6)), (7, some (.int x7))] _ _ _ (sf_le_ok (And.intro e0 (And.intro e1 (And.intro e2 (And.intro e3 (And.intro e5 (And.intro e6 (And.intro e7 trivial)))))))) (h _ _ _ _ _ _ _ _ _ hz hp)
abbrev wX12_changesRow_114 {ρ : Type} (k : Int32 → Int32 → Int32 → Int32 → Int32 → Int32 → sf_S → Option ρ) : sf_M ρ := fun L st σ => sf_lda L 0 fun a0 => sf_eq a0 0 (sf_ldi L 1 fun x1 => sf_ldi L 2 fun x2 => sf_ldi L 3 fun x3 => sf_ldi L 5 fun x5 => sf_ldi L 6 fun x6 => sf_i1 st fun y0 st => sf_nil st (k x1 x2 x3 x5 x6 y0 σ))
theorem wX12_changesRow_114_ok {ρ : Type} {Wt : Nat → sf_L → List Value → sf_S → Prop} {Post : ρ → Prop} (hm : sf_mono Wt) {k : Int32 → Int32 → Int32 → Int32 → Int32 → Int32 → sf_S → Option ρ} (h : ∀ (x1 : Int32) (x2 : Int32) (x3 : Int32) (x5 : Int32) (x6 : Int32) (y0 : Int32) (σ : sf_S) (u : ρ), k x1 x2 x3 x5 x6 y0 σ = some u → Post u → Wt 114 [(0, some (.ref 0)), (1, some (.int x1)), (2, some (.int x2)), (3, some (.int x3)), (5, some (.int x5)), (6, some (.int x6))] [.int y0] σ) : sf_CK Wt Post 114 (wX12_changesRow_114 k) := by
  intro L st σ u hf hp
  unfold wX12_changesRow_114 at hf
  have hf0 := hf
  obtain ⟨a0, e0, hf1⟩ := sf_lda_inv hf0
  obtain ⟨rfl, hf2⟩ := sf_eq_inv hf1
  obtain ⟨x1, e1, hf3⟩ := sf_ldi_inv hf2
  obtain ⟨x2, e2, hf4⟩ := sf_ldi_inv hf3
  obtain ⟨x3, e3, hf5⟩ := sf_ldi_inv hf4
  obtain ⟨x5, e5, hf6⟩ := sf_ldi_inv hf5
  obtain ⟨x6, e6, hf7⟩ := sf_ldi_inv hf6
  obtain ⟨y0, st, rfl, hf8⟩ := sf_i1_inv hf7
  obtain ⟨rfl, hz⟩ := sf_nil_inv hf8
  exact hm _ [(0, some (.ref _)), (1, some (.int x1)), (2, some (.int x2)), (3, some (.int x3)), (5, some (.int x5)), (6, some (.int x6))] _ _ _ (sf_le_ok (And.intro e0 (And.intro e1 (And.intro e2 (And.intro e3 (And.intro e5 (And.intro e6 trivial))))))) (h _ _ _ _ _ _ _ _ hz hp)
abbrev wX12_changesRow_20 {ρ : Type} (k : Int32 → Int32 → Int32 → Int32 → Int32 → sf_S → Option ρ) : sf_M ρ := fun L st σ => sf_lda L 0 fun a0 => sf_eq a0 0 (sf_ldi L 1 fun x1 => sf_ldi L 2 fun x2 => sf_ldi L 3 fun x3 => sf_ldi L 4 fun x4 => sf_ldi L 5 fun x5 => sf_nil st (k x1 x2 x3 x4 x5 σ))
theorem wX12_changesRow_20_ok {ρ : Type} {Wt : Nat → sf_L → List Value → sf_S → Prop} {Post : ρ → Prop} (hm : sf_mono Wt) {k : Int32 → Int32 → Int32 → Int32 → Int32 → sf_S → Option ρ} (h : ∀ (x1 : Int32) (x2 : Int32) (x3 : Int32) (x4 : Int32) (x5 : Int32) (σ : sf_S) (u : ρ), k x1 x2 x3 x4 x5 σ = some u → Post u → Wt 20 [(0, some (.ref 0)), (1, some (.int x1)), (2, some (.int x2)), (3, some (.int x3)), (4, some (.int x4)), (5, some (.int x5))] [] σ) : sf_CK Wt Post 20 (wX12_changesRow_20 k) := by
  intro L st σ u hf hp
  unfold wX12_changesRow_20 at hf
  have hf0 := hf
  obtain ⟨a0, e0, hf1⟩ := sf_lda_inv hf0
  obtain ⟨rfl, hf2⟩ := sf_eq_inv hf1
  obtain ⟨x1, e1, hf3⟩ := sf_ldi_inv hf2
  obtain ⟨x2, e2, hf4⟩ := sf_ldi_inv hf3
  obtain ⟨x3, e3, hf5⟩ := sf_ldi_inv hf4
  obtain ⟨x4, e4, hf6⟩ := sf_ldi_inv hf5
  obtain ⟨x5, e5, hf7⟩ := sf_ldi_inv hf6
  obtain ⟨rfl, hz⟩ := sf_nil_inv hf7
  exact hm _ [(0, some (.ref _)), (1, some (.int x1)), (2, some (.int x2)), (3, some (.int x3)), (4, some (.int x4)), (5, some (.int x5))] _ _ _ (sf_le_ok (And.intro e0 (And.intro e1 (And.intro e2 (And.intro e3 (And.intro e4 (And.intro e5 trivial))))))) (h _ _ _ _ _ _ _ hz hp)
noncomputable def dX12_changesRow_132 (K20 : Int32 → Int32 → Int32 → Int32 → Int32 → sf_S → Option sf_S) (x1 : Int32) (x2 : Int32) (x3 : Int32) (x5 : Int32) (x6 : Int32) (x7 : Int32) (y0 : Int32) (σ : sf_S) : Option sf_S :=
  if x7 = 0 then
    K20 x1 x2 x3 y0 (x5 + (1 : Int32)) σ
  else
    (dX12_made x1 x6 σ).bind fun u1 =>
    if ¬ (u1.2 0 35) = 0 then
      K20 x1 x2 x3 y0 (x5 + (1 : Int32)) u1.2
    else
      (dX12_adds x1 u1.1 u1.2).bind fun u2 =>
      K20 x1 x2 x3 y0 (x5 + (1 : Int32)) u2
set_option maxRecDepth 100000 in
set_option maxHeartbeats 4000000 in
theorem rX12_changesRow_132 {Wt : Nat → sf_L → List Value → sf_S → Prop} {Post : sf_S → Prop} (hs : sf_Snd Wt sf_layM sf_hV jX12_changesRow tX12_changesRow Post) (hm : sf_mono Wt) {K20 : Int32 → Int32 → Int32 → Int32 → Int32 → sf_S → Option sf_S} (hK20 : sf_CK Wt Post 20 (wX12_changesRow_20 K20)) : sf_CK Wt Post 132 (wX12_changesRow_132 (dX12_changesRow_132 K20)) := by
  refine wX12_changesRow_132_ok hm ?_
  intro x1 x2 x3 x5 x6 x7 y0 σ u h hp
  exact sf_run_ok hs (sf_sm_cons hK20 sf_sm_nil) 96 132 _ _ σ u h hp
noncomputable def dX12_changesRow_114 (K20 : Int32 → Int32 → Int32 → Int32 → Int32 → sf_S → Option sf_S) (x1 : Int32) (x2 : Int32) (x3 : Int32) (x5 : Int32) (x6 : Int32) (y0 : Int32) (σ : sf_S) : Option sf_S :=
  if ¬ x2 = (119 : Int32) then
    dX12_changesRow_132 K20 x1 x2 x3 x5 x6 y0 (1 : Int32) σ
  else
    if y0 = 0 then
      dX12_changesRow_132 K20 x1 x2 x3 x5 x6 y0 (0 : Int32) σ
    else
      dX12_changesRow_132 K20 x1 x2 x3 x5 x6 y0 (1 : Int32) σ
set_option maxRecDepth 100000 in
set_option maxHeartbeats 4000000 in
theorem rX12_changesRow_114 {Wt : Nat → sf_L → List Value → sf_S → Prop} {Post : sf_S → Prop} (hs : sf_Snd Wt sf_layM sf_hV jX12_changesRow tX12_changesRow Post) (hm : sf_mono Wt) {K20 : Int32 → Int32 → Int32 → Int32 → Int32 → sf_S → Option sf_S} (hK20 : sf_CK Wt Post 20 (wX12_changesRow_20 K20)) : sf_CK Wt Post 114 (wX12_changesRow_114 (dX12_changesRow_114 K20)) := by
  refine wX12_changesRow_114_ok hm ?_
  intro x1 x2 x3 x5 x6 y0 σ u h hp
  exact sf_run_ok hs (sf_sm_cons (rX12_changesRow_132 hs hm hK20) sf_sm_nil) 96 114 _ _ σ u h hp
noncomputable def dX12_changesRow_20 : Nat → Int32 → Int32 → Int32 → Int32 → Int32 → sf_S → Option sf_S
  | 0 => fun _ _ _ _ _ _ => none
  | n + 1 => fun x1 x2 x3 x4 x5 σ =>
    if sf_in x3 40 then
      if (σ 31 x3.toNatClampNeg) ≤ x5 then
        some σ
      else
        if x4 = 0 then
          some σ
        else
          if ¬ (σ 0 35) = 0 then
            some σ
          else
            let v1 := (((60 : Int32) * x3) + x5)
            if sf_in v1 2400 then
              let v2 := (σ 30 v1.toNatClampNeg)
              if ¬ x2 = (116 : Int32) then
                if ¬ x2 = (100 : Int32) then
                  (dX12_passes x1 v2 σ).bind fun u3 =>
                  dX12_changesRow_114 (dX12_changesRow_20 n) x1 x2 x3 x5 v2 u3.1 u3.2
                else
                  if sf_in x1 40 then
                    if x5 < (σ 13 x1.toNatClampNeg) then
                      dX12_changesRow_114 (dX12_changesRow_20 n) x1 x2 x3 x5 v2 (0 : Int32) σ
                    else
                      dX12_changesRow_114 (dX12_changesRow_20 n) x1 x2 x3 x5 v2 (1 : Int32) σ
                  else
                    none
              else
                if sf_in x1 40 then
                  if (σ 13 x1.toNatClampNeg) ≤ x5 then
                    dX12_changesRow_114 (dX12_changesRow_20 n) x1 x2 x3 x5 v2 (0 : Int32) σ
                  else
                    dX12_changesRow_114 (dX12_changesRow_20 n) x1 x2 x3 x5 v2 (1 : Int32) σ
                else
                  none
            else
              none
    else
      none
set_option maxRecDepth 100000 in
set_option maxHeartbeats 4000000 in
theorem rX12_changesRow_20 {Wt : Nat → sf_L → List Value → sf_S → Prop} {Post : sf_S → Prop} (hs : sf_Snd Wt sf_layM sf_hV jX12_changesRow tX12_changesRow Post) (hm : sf_mono Wt) : ∀ n : Nat, sf_CK Wt Post 20 (wX12_changesRow_20 (dX12_changesRow_20 n)) := by
  intro n
  induction n with
  | zero => exact wX12_changesRow_20_ok hm (fun x1 x2 x3 x4 x5 σ u h _ => by simp [dX12_changesRow_20] at h)
  | succ n ih =>
    refine wX12_changesRow_20_ok hm ?_
    intro x1 x2 x3 x4 x5 σ u h hp
    exact sf_run_ok hs (sf_sm_cons (rX12_changesRow_114 hs hm ih) sf_sm_nil) 96 20 _ _ σ u h hp
noncomputable def dX12_changesRow (x1 : Int32) (σ : sf_S) : Option sf_S :=
  if sf_in x1 40 then
    let v1 := (σ 11 x1.toNatClampNeg)
    if sf_in x1 40 then
      let v2 := (σ 16 x1.toNatClampNeg)
      dX12_changesRow_20 sf_F x1 v1 v2 (1 : Int32) (0 : Int32) σ
    else
      none
  else
    none
noncomputable abbrev gX12_changesRow (av : List Value) (σ : sf_S) : Option sf_S := match av with
  | [.ref q, .int x1] => (match sf_rv [0] q with | true => dX12_changesRow x1 σ | false => none)
  | _ => none
set_option maxRecDepth 100000 in
set_option maxHeartbeats 4000000 in
theorem rX12_changesRow {Wt : Nat → sf_L → List Value → sf_S → Prop} {Post : sf_S → Prop} (hs : sf_Snd Wt sf_layM sf_hV jX12_changesRow tX12_changesRow Post) (hm : sf_mono Wt) : ∀ av σ u, gX12_changesRow av σ = some u → Post u → (∀ ad, (lg_sl (av.map (sf_v ad))).length ≤ 9) ∧ Wt 0 (sf_ent 0 av) [] σ := by
  intro av σ u h hp
  unfold gX12_changesRow at h
  split at h
  · rename_i q x1
    split at h
    · rename_i hq
      have hq : q = 0 := by simpa using sf_rv_mem hq
      subst hq
      refine ⟨fun ad => Nat.le_of_ble_eq_true rfl, ?_⟩
      exact sf_run_ok hs (sf_sm_cons (rX12_changesRow_20 hs hm sf_F) sf_sm_nil) 96 0 _ _ σ u h hp
    · cases h
  · cases h
theorem kX12_changesRow (l : Launch) : sf_C l sf_layM yX12_changesRow cX12_changesRow 9 none (sf_rm 3 146) (fun av σ => (gX12_changesRow av σ).map sf_vV) :=
  sf_met (tab := tX12_changesRow) (J := jX12_changesRow) (fl := sf_fl12) (cl := sf_cl12) (by decide +kernel) ⟨rfl, rfl⟩ sf_RH_V (by decide +kernel) sf_fl12_ok sf_cl12_ok
    (sf_JO_cons (sf_je_V (n := 3) (cs := [10]) (tv := sf_vI) (kX12_passes l) mwX12_passes (by decide +kernel : decode cX12_changesRow 111 = .ok (.invokevirtual 331, 3)) wt_1616 wt_1618 wt_121 (by decide +kernel) (by decide) (by decide) (List.forall_mem_cons.mpr ⟨⟨_, _, rfl⟩, fun _ h => absurd h List.not_mem_nil⟩) (sf_RM_of (by omega) (by omega))) (sf_JO_cons (sf_je_V (n := 3) (cs := [10]) (tv := sf_vI) (kX12_made l) mwX12_made (by decide +kernel : decode cX12_changesRow 143 = .ok (.invokevirtual 340, 3)) wt_1620 wt_1622 wt_122 (by decide +kernel) (by decide) (by decide) (List.forall_mem_cons.mpr ⟨⟨_, _, rfl⟩, fun _ h => absurd h List.not_mem_nil⟩) (sf_RM_of (by omega) (by omega))) (sf_JO_cons (sf_je_V (n := 3) (cs := [10]) (tv := sf_vV) (kX12_adds l) mwX12_adds (by decide +kernel : decode cX12_changesRow 159 = .ok (.invokevirtual 367, 3)) wt_1599 wt_1601 wt_117 (by decide +kernel) (by decide) (by decide) (List.forall_mem_cons.mpr ⟨⟨_, _, rfl⟩, fun _ h => absurd h List.not_mem_nil⟩) (sf_RM_of (by omega) (by omega))) (sf_JO_nil))))
    (fun Wt Post hs hm => rX12_changesRow hs hm)
-- ===== StreamFuserModel.joinsRows(I)V =====
abbrev tX12_joinsRows : List (Nat × sf_E) := [(0, (.aload_n 0, 1, 0, .null, [], [])), (1, (.getfield 55, 4, 0, .null, [], [(10, 23)])), (4, (.iload_n 1, 5, 0, .null, [], [])), (5, (.iaload, 6, 0, .null, [], [])), (6, (.istore_n 2, 7, 0, .null, [], [])), (7, (.aload_n 0, 8, 0, .null, [], [])), (8, (.getfield 58, 11, 0, .null, [], [(10, 24)])), (11, (.iload_n 1, 12, 0, .null, [], [])), (12, (.iaload, 13, 0, .null, [], [])), (13, (.istore_n 3, 14, 0, .null, [], [])), (14, (.aload_n 0, 15, 0, .null, [], [])), (15, (.getfield 40, 18, 0, .null, [], [(10, 17)])), (18, (.iload_n 1, 19, 0, .null, [], [])), (19, (.iaload, 20, 0, .null, [], [])), (20, (.bipush 122, 22, 0, .int (122), [], [])), (22, (.if_icmp .ne 71, 25, 93, .null, [], [])), (25, (.iconst 0, 26, 0, .int (0), [], [])), (26, (.istore 4, 28, 0, .null, [], [])), (28, (.iload 4, 30, 0, .null, [], [])), (30, (.aload_n 0, 31, 0, .null, [], [])), (31, (.getfield 100, 34, 0, .null, [], [(10, 50)])), (34, (.iload_n 2, 35, 0, .null, [], [])), (35, (.iaload, 36, 0, .null, [], [])), (36, (.if_icmp .ge 54, 39, 90, .null, [], [])), (39, (.iload 4, 41, 0, .null, [], [])), (41, (.aload_n 0, 42, 0, .null, [], [])), (42, (.getfield 100, 45, 0, .null, [], [(10, 50)])), (45, (.iload_n 3, 46, 0, .null, [], [])), (46, (.iaload, 47, 0, .null, [], [])), (47, (.if_icmp .ge 43, 50, 90, .null, [], [])), (50, (.aload_n 0, 51, 0, .null, [], [])), (51, (.iload_n 1, 52, 0, .null, [], [])), (52, (.aload_n 0, 53, 0, .null, [], [])), (53, (.iload_n 1, 54, 0, .null, [], [])), (54, (.aload_n 0, 55, 0, .null, [], [])), (55, (.getfield 97, 58, 0, .null, [], [(10, 49)])), (58, (.bipush 60, 60, 0, .int (60), [], [])), (60, (.iload_n 2, 61, 0, .null, [], [])), (61, (.imul, 62, 0, .null, [], [])), (62, (.iload 4, 64, 0, .null, [], [])), (64, (.iadd, 65, 0, .null, [], [])), (65, (.iaload, 66, 0, .null, [], [])), (66, (.aload_n 0, 67, 0, .null, [], [])), (67, (.getfield 97, 70, 0, .null, [], [(10, 49)])), (70, (.bipush 60, 72, 0, .int (60), [], [])), (72, (.iload_n 3, 73, 0, .null, [], [])), (73, (.imul, 74, 0, .null, [], [])), (74, (.iload 4, 76, 0, .null, [], [])), (76, (.iadd, 77, 0, .null, [], [])), (77, (.iaload, 78, 0, .null, [], [])), (78, (.invokevirtual 343, 81, 0, .null, [], [])), (81, (.invokevirtual 367, 84, 0, .null, [], [])), (84, (.iinc 4 1, 87, 0, .int (1), [], [])), (87, (.goto (-59), 90, 28, .null, [], [])), (90, (.goto 107, 93, 197, .null, [], [])), (93, (.aload_n 0, 94, 0, .null, [], [])), (94, (.getfield 100, 97, 0, .null, [], [(10, 50)])), (97, (.iload_n 2, 98, 0, .null, [], [])), (98, (.iaload, 99, 0, .null, [], [])), (99, (.aload_n 0, 100, 0, .null, [], [])), (100, (.getfield 100, 103, 0, .null, [], [(10, 50)])), (103, (.iload_n 3, 104, 0, .null, [], [])), (104, (.iaload, 105, 0, .null, [], [])), (105, (.iadd, 106, 0, .null, [], [])), (106, (.bipush 60, 108, 0, .int (60), [], [])), (108, (.if_icmp .le 12, 111, 120, .null, [], [])), (111, (.aload_n 0, 112, 0, .null, [], [])), (112, (.iconst 4, 113, 0, .int (4), [], [])), (113, (.iload_n 1, 114, 0, .null, [], [])), (114, (.invokevirtual 306, 117, 0, .null, [], [])), (117, (.goto 80, 120, 197, .null, [], [])), (120, (.iconst 0, 121, 0, .int (0), [], [])), (121, (.istore 4, 123, 0, .null, [], [])), (123, (.iload 4, 125, 0, .null, [], [])), (125, (.aload_n 0, 126, 0, .null, [], [])), (126, (.getfield 100, 129, 0, .null, [], [(10, 50)])), (129, (.iload_n 2, 130, 0, .null, [], [])), (130, (.iaload, 131, 0, .null, [], [])), (131, (.aload_n 0, 132, 0, .null, [], [])), (132, (.getfield 100, 135, 0, .null, [], [(10, 50)])), (135, (.iload_n 3, 136, 0, .null, [], [])), (136, (.iaload, 137, 0, .null, [], [])), (137, (.iadd, 138, 0, .null, [], [])), (138, (.if_icmp .ge 59, 141, 197, .null, [], [])), (141, (.aload_n 0, 142, 0, .null, [], [])), (142, (.iload_n 1, 143, 0, .null, [], [])), (143, (.iload 4, 145, 0, .null, [], [])), (145, (.aload_n 0, 146, 0, .null, [], [])), (146, (.getfield 100, 149, 0, .null, [], [(10, 50)])), (149, (.iload_n 2, 150, 0, .null, [], [])), (150, (.iaload, 151, 0, .null, [], [])), (151, (.if_icmp .ge 18, 154, 169, .null, [], [])), (154, (.aload_n 0, 155, 0, .null, [], [])), (155, (.getfield 97, 158, 0, .null, [], [(10, 49)])), (158, (.bipush 60, 160, 0, .int (60), [], [])), (160, (.iload_n 2, 161, 0, .null, [], [])), (161, (.imul, 162, 0, .null, [], [])), (162, (.iload 4, 164, 0, .null, [], [])), (164, (.iadd, 165, 0, .null, [], [])), (165, (.iaload, 166, 0, .null, [], [])), (166, (.goto 22, 169, 188, .null, [], [])), (169, (.aload_n 0, 170, 0, .null, [], [])), (170, (.getfield 97, 173, 0, .null, [], [(10, 49)])), (173, (.bipush 60, 175, 0, .int (60), [], [])), (175, (.iload_n 3, 176, 0, .null, [], [])), (176, (.imul, 177, 0, .null, [], [])), (177, (.iload 4, 179, 0, .null, [], [])), (179, (.iadd, 180, 0, .null, [], [])), (180, (.aload_n 0, 181, 0, .null, [], [])), (181, (.getfield 100, 184, 0, .null, [], [(10, 50)])), (184, (.iload_n 2, 185, 0, .null, [], [])), (185, (.iaload, 186, 0, .null, [], [])), (186, (.isub, 187, 0, .null, [], [])), (187, (.iaload, 188, 0, .null, [], [])), (188, (.invokevirtual 367, 191, 0, .null, [], [])), (191, (.iinc 4 1, 194, 0, .int (1), [], [])), (194, (.goto (-71), 197, 123, .null, [], [])), (197, (.return_, 198, 0, .null, [], []))]
noncomputable abbrev jX12_joinsRows : List (Nat × sf_J sf_S) := [(78, sf_jI sf_layM [10] 4 gX12_joined), (81, sf_jV sf_layM [10] 3 gX12_adds), (114, sf_jV sf_layM [10] 3 gX12_fails), (188, sf_jV sf_layM [10] 3 gX12_adds)]
abbrev wX12_joinsRows_123 {ρ : Type} (k : Int32 → Int32 → Int32 → Int32 → sf_S → Option ρ) : sf_M ρ := fun L st σ => sf_lda L 0 fun a0 => sf_eq a0 0 (sf_ldi L 1 fun x1 => sf_ldi L 2 fun x2 => sf_ldi L 3 fun x3 => sf_ldi L 4 fun x4 => sf_nil st (k x1 x2 x3 x4 σ))
theorem wX12_joinsRows_123_ok {ρ : Type} {Wt : Nat → sf_L → List Value → sf_S → Prop} {Post : ρ → Prop} (hm : sf_mono Wt) {k : Int32 → Int32 → Int32 → Int32 → sf_S → Option ρ} (h : ∀ (x1 : Int32) (x2 : Int32) (x3 : Int32) (x4 : Int32) (σ : sf_S) (u : ρ), k x1 x2 x3 x4 σ = some u → Post u → Wt 123 [(0, some (.ref 0)), (1, some (.int x1)), (2, some (.int x2)), (3, some (.int x3)), (4, some (.int x4))] [] σ) : sf_CK Wt Post 123 (wX12_joinsRows_123 k) := by
  intro L st σ u hf hp
  unfold wX12_joinsRows_123 at hf
  have hf0 := hf
  obtain ⟨a0, e0, hf1⟩ := sf_lda_inv hf0
  obtain ⟨rfl, hf2⟩ := sf_eq_inv hf1
  obtain ⟨x1, e1, hf3⟩ := sf_ldi_inv hf2
  obtain ⟨x2, e2, hf4⟩ := sf_ldi_inv hf3
  obtain ⟨x3, e3, hf5⟩ := sf_ldi_inv hf4
  obtain ⟨x4, e4, hf6⟩ := sf_ldi_inv hf5
  obtain ⟨rfl, hz⟩ := sf_nil_inv hf6
  exact hm _ [(0, some (.ref _)), (1, some (.int x1)), (2, some (.int x2)), (3, some (.int x3)), (4, some (.int x4))] _ _ _ (sf_le_ok (And.intro e0 (And.intro e1 (And.intro e2 (And.intro e3 (And.intro e4 trivial)))))) (h _ _ _ _ _ _ hz hp)
abbrev wX12_joinsRows_28 {ρ : Type} (k : Int32 → Int32 → Int32 → Int32 → sf_S → Option ρ) : sf_M ρ := fun L st σ => sf_lda L 0 fun a0 => sf_eq a0 0 (sf_ldi L 1 fun x1 => sf_ldi L 2 fun x2 => sf_ldi L 3 fun x3 => sf_ldi L 4 fun x4 => sf_nil st (k x1 x2 x3 x4 σ))
theorem wX12_joinsRows_28_ok {ρ : Type} {Wt : Nat → sf_L → List Value → sf_S → Prop} {Post : ρ → Prop} (hm : sf_mono Wt) {k : Int32 → Int32 → Int32 → Int32 → sf_S → Option ρ} (h : ∀ (x1 : Int32) (x2 : Int32) (x3 : Int32) (x4 : Int32) (σ : sf_S) (u : ρ), k x1 x2 x3 x4 σ = some u → Post u → Wt 28 [(0, some (.ref 0)), (1, some (.int x1)), (2, some (.int x2)), (3, some (.int x3)), (4, some (.int x4))] [] σ) : sf_CK Wt Post 28 (wX12_joinsRows_28 k) := by
  intro L st σ u hf hp
  unfold wX12_joinsRows_28 at hf
  have hf0 := hf
  obtain ⟨a0, e0, hf1⟩ := sf_lda_inv hf0
  obtain ⟨rfl, hf2⟩ := sf_eq_inv hf1
  obtain ⟨x1, e1, hf3⟩ := sf_ldi_inv hf2
  obtain ⟨x2, e2, hf4⟩ := sf_ldi_inv hf3
  obtain ⟨x3, e3, hf5⟩ := sf_ldi_inv hf4
  obtain ⟨x4, e4, hf6⟩ := sf_ldi_inv hf5
  obtain ⟨rfl, hz⟩ := sf_nil_inv hf6
  exact hm _ [(0, some (.ref _)), (1, some (.int x1)), (2, some (.int x2)), (3, some (.int x3)), (4, some (.int x4))] _ _ _ (sf_le_ok (And.intro e0 (And.intro e1 (And.intro e2 (And.intro e3 (And.intro e4 trivial)))))) (h _ _ _ _ _ _ hz hp)
noncomputable def dX12_joinsRows_123 : Nat → Int32 → Int32 → Int32 → Int32 → sf_S → Option sf_S
  | 0 => fun _ _ _ _ _ => none
  | n + 1 => fun x1 x2 x3 x4 σ =>
    if sf_in x2 40 then
      if sf_in x3 40 then
        if ((σ 31 x2.toNatClampNeg) + (σ 31 x3.toNatClampNeg)) ≤ x4 then
          some σ
        else
          if sf_in x2 40 then
            if (σ 31 x2.toNatClampNeg) ≤ x4 then
              if sf_in x2 40 then
                let v1 := ((((60 : Int32) * x3) + x4) - (σ 31 x2.toNatClampNeg))
                if sf_in v1 2400 then
                  (dX12_adds x1 (σ 30 v1.toNatClampNeg) σ).bind fun u2 =>
                  dX12_joinsRows_123 n x1 x2 x3 (x4 + (1 : Int32)) u2
                else
                  none
              else
                none
            else
              let v3 := (((60 : Int32) * x2) + x4)
              if sf_in v3 2400 then
                (dX12_adds x1 (σ 30 v3.toNatClampNeg) σ).bind fun u4 =>
                dX12_joinsRows_123 n x1 x2 x3 (x4 + (1 : Int32)) u4
              else
                none
          else
            none
      else
        none
    else
      none
set_option maxRecDepth 100000 in
set_option maxHeartbeats 4000000 in
theorem rX12_joinsRows_123 {Wt : Nat → sf_L → List Value → sf_S → Prop} {Post : sf_S → Prop} (hs : sf_Snd Wt sf_layM sf_hV jX12_joinsRows tX12_joinsRows Post) (hm : sf_mono Wt) : ∀ n : Nat, sf_CK Wt Post 123 (wX12_joinsRows_123 (dX12_joinsRows_123 n)) := by
  intro n
  induction n with
  | zero => exact wX12_joinsRows_123_ok hm (fun x1 x2 x3 x4 σ u h _ => by simp [dX12_joinsRows_123] at h)
  | succ n ih =>
    refine wX12_joinsRows_123_ok hm ?_
    intro x1 x2 x3 x4 σ u h hp
    exact sf_run_ok hs (sf_sm_cons ih sf_sm_nil) 123 123 _ _ σ u h hp
noncomputable def dX12_joinsRows_28 : Nat → Int32 → Int32 → Int32 → Int32 → sf_S → Option sf_S
  | 0 => fun _ _ _ _ _ => none
  | n + 1 => fun x1 x2 x3 x4 σ =>
    if sf_in x2 40 then
      if (σ 31 x2.toNatClampNeg) ≤ x4 then
        some σ
      else
        if sf_in x3 40 then
          if (σ 31 x3.toNatClampNeg) ≤ x4 then
            some σ
          else
            let v1 := (((60 : Int32) * x2) + x4)
            if sf_in v1 2400 then
              let v2 := (((60 : Int32) * x3) + x4)
              if sf_in v2 2400 then
                (dX12_joined x1 (σ 30 v1.toNatClampNeg) (σ 30 v2.toNatClampNeg) σ).bind fun u3 =>
                (dX12_adds x1 u3.1 u3.2).bind fun u4 =>
                dX12_joinsRows_28 n x1 x2 x3 (x4 + (1 : Int32)) u4
              else
                none
            else
              none
        else
          none
    else
      none
set_option maxRecDepth 100000 in
set_option maxHeartbeats 4000000 in
theorem rX12_joinsRows_28 {Wt : Nat → sf_L → List Value → sf_S → Prop} {Post : sf_S → Prop} (hs : sf_Snd Wt sf_layM sf_hV jX12_joinsRows tX12_joinsRows Post) (hm : sf_mono Wt) : ∀ n : Nat, sf_CK Wt Post 28 (wX12_joinsRows_28 (dX12_joinsRows_28 n)) := by
  intro n
  induction n with
  | zero => exact wX12_joinsRows_28_ok hm (fun x1 x2 x3 x4 σ u h _ => by simp [dX12_joinsRows_28] at h)
  | succ n ih =>
    refine wX12_joinsRows_28_ok hm ?_
    intro x1 x2 x3 x4 σ u h hp
    exact sf_run_ok hs (sf_sm_cons ih sf_sm_nil) 123 28 _ _ σ u h hp
noncomputable def dX12_joinsRows (x1 : Int32) (σ : sf_S) : Option sf_S :=
  if sf_in x1 40 then
    let v1 := (σ 16 x1.toNatClampNeg)
    if sf_in x1 40 then
      let v2 := (σ 17 x1.toNatClampNeg)
      if sf_in x1 40 then
        if ¬ (σ 11 x1.toNatClampNeg) = (122 : Int32) then
          if sf_in v1 40 then
            if sf_in v2 40 then
              if ((σ 31 v1.toNatClampNeg) + (σ 31 v2.toNatClampNeg)) ≤ (60 : Int32) then
                dX12_joinsRows_123 sf_F x1 v1 v2 (0 : Int32) σ
              else
                (dX12_fails (4 : Int32) x1 σ).bind fun u3 =>
                some u3
            else
              none
          else
            none
        else
          dX12_joinsRows_28 sf_F x1 v1 v2 (0 : Int32) σ
      else
        none
    else
      none
  else
    none
noncomputable abbrev gX12_joinsRows (av : List Value) (σ : sf_S) : Option sf_S := match av with
  | [.ref q, .int x1] => (match sf_rv [0] q with | true => dX12_joinsRows x1 σ | false => none)
  | _ => none
set_option maxRecDepth 100000 in
set_option maxHeartbeats 4000000 in
theorem rX12_joinsRows {Wt : Nat → sf_L → List Value → sf_S → Prop} {Post : sf_S → Prop} (hs : sf_Snd Wt sf_layM sf_hV jX12_joinsRows tX12_joinsRows Post) (hm : sf_mono Wt) : ∀ av σ u, gX12_joinsRows av σ = some u → Post u → (∀ ad, (lg_sl (av.map (sf_v ad))).length ≤ 5) ∧ Wt 0 (sf_ent 0 av) [] σ := by
  intro av σ u h hp
  unfold gX12_joinsRows at h
  split at h
  · rename_i q x1
    split at h
    · rename_i hq
      have hq : q = 0 := by simpa using sf_rv_mem hq
      subst hq
      refine ⟨fun ad => Nat.le_of_ble_eq_true rfl, ?_⟩
      exact sf_run_ok hs (sf_sm_cons (rX12_joinsRows_28 hs hm sf_F) (sf_sm_cons (rX12_joinsRows_123 hs hm sf_F) sf_sm_nil)) 123 0 _ _ σ u h hp
    · cases h
  · cases h
theorem kX12_joinsRows (l : Launch) : sf_C l sf_layM yX12_joinsRows cX12_joinsRows 5 none (sf_rm 3 144) (fun av σ => (gX12_joinsRows av σ).map sf_vV) :=
  sf_met (tab := tX12_joinsRows) (J := jX12_joinsRows) (fl := sf_fl12) (cl := sf_cl12) (by decide +kernel) ⟨rfl, rfl⟩ sf_RH_V (by decide +kernel) sf_fl12_ok sf_cl12_ok
    (sf_JO_cons (sf_je_V (n := 4) (cs := [10]) (tv := sf_vI) (kX12_joined l) mwX12_joined (by decide +kernel : decode cX12_joinsRows 78 = .ok (.invokevirtual 343, 3)) wt_1632 wt_1634 wt_125 (by decide +kernel) (by decide) (by decide) (List.forall_mem_cons.mpr ⟨⟨_, _, rfl⟩, fun _ h => absurd h List.not_mem_nil⟩) (sf_RM_of (by omega) (by omega))) (sf_JO_cons (sf_je_V (n := 3) (cs := [10]) (tv := sf_vV) (kX12_adds l) mwX12_adds (by decide +kernel : decode cX12_joinsRows 81 = .ok (.invokevirtual 367, 3)) wt_1599 wt_1601 wt_117 (by decide +kernel) (by decide) (by decide) (List.forall_mem_cons.mpr ⟨⟨_, _, rfl⟩, fun _ h => absurd h List.not_mem_nil⟩) (sf_RM_of (by omega) (by omega))) (sf_JO_cons (sf_je_V (n := 3) (cs := [10]) (tv := sf_vV) (kX12_fails l) mwX12_fails (by decide +kernel : decode cX12_joinsRows 114 = .ok (.invokevirtual 306, 3)) wt_1595 wt_1597 wt_116 (by decide +kernel) (by decide) (by decide) (List.forall_mem_cons.mpr ⟨⟨_, _, rfl⟩, fun _ h => absurd h List.not_mem_nil⟩) (sf_RM_of (by omega) (by omega))) (sf_JO_cons (sf_je_V (n := 3) (cs := [10]) (tv := sf_vV) (kX12_adds l) mwX12_adds (by decide +kernel : decode cX12_joinsRows 188 = .ok (.invokevirtual 367, 3)) wt_1599 wt_1601 wt_117 (by decide +kernel) (by decide) (by decide) (List.forall_mem_cons.mpr ⟨⟨_, _, rfl⟩, fun _ h => absurd h List.not_mem_nil⟩) (sf_RM_of (by omega) (by omega))) (sf_JO_nil)))))
    (fun Wt Post hs hm => rX12_joinsRows hs hm)
-- ===== StreamFuserModel.opensRow(I)I =====
abbrev tX12_opensRow : List (Nat × sf_E) := [(0, (.aload_n 0, 1, 0, .null, [], [])), (1, (.getfield 58, 4, 0, .null, [], [(10, 24)])), (4, (.iload_n 1, 5, 0, .null, [], [])), (5, (.iaload, 6, 0, .null, [], [])), (6, (.istore_n 2, 7, 0, .null, [], [])), (7, (.aload_n 0, 8, 0, .null, [], [])), (8, (.getfield 103, 11, 0, .null, [], [(10, 51)])), (11, (.iload_n 1, 12, 0, .null, [], [])), (12, (.iaload, 13, 0, .null, [], [])), (13, (.iconst 2, 14, 0, .int (2), [], [])), (14, (.if_icmp .ne 73, 17, 87, .null, [], [])), (17, (.aload_n 0, 18, 0, .null, [], [])), (18, (.getfield 100, 21, 0, .null, [], [(10, 50)])), (21, (.iload_n 1, 22, 0, .null, [], [])), (22, (.iaload, 23, 0, .null, [], [])), (23, (.aload_n 0, 24, 0, .null, [], [])), (24, (.getfield 100, 27, 0, .null, [], [(10, 50)])), (27, (.iload_n 2, 28, 0, .null, [], [])), (28, (.iaload, 29, 0, .null, [], [])), (29, (.iadd, 30, 0, .null, [], [])), (30, (.bipush 60, 32, 0, .int (60), [], [])), (32, (.if_icmp .le 11, 35, 43, .null, [], [])), (35, (.aload_n 0, 36, 0, .null, [], [])), (36, (.iconst 4, 37, 0, .int (4), [], [])), (37, (.iload_n 1, 38, 0, .null, [], [])), (38, (.invokevirtual 306, 41, 0, .null, [], [])), (41, (.iconst (-1), 42, 0, .int (-1), [], [])), (42, (.ireturn, 43, 0, .null, [], [])), (43, (.iconst 0, 44, 0, .int (0), [], [])), (44, (.istore_n 3, 45, 0, .null, [], [])), (45, (.iload_n 3, 46, 0, .null, [], [])), (46, (.aload_n 0, 47, 0, .null, [], [])), (47, (.getfield 100, 50, 0, .null, [], [(10, 50)])), (50, (.iload_n 2, 51, 0, .null, [], [])), (51, (.iaload, 52, 0, .null, [], [])), (52, (.if_icmp .ge 25, 55, 77, .null, [], [])), (55, (.aload_n 0, 56, 0, .null, [], [])), (56, (.iload_n 1, 57, 0, .null, [], [])), (57, (.aload_n 0, 58, 0, .null, [], [])), (58, (.getfield 97, 61, 0, .null, [], [(10, 49)])), (61, (.bipush 60, 63, 0, .int (60), [], [])), (63, (.iload_n 2, 64, 0, .null, [], [])), (64, (.imul, 65, 0, .null, [], [])), (65, (.iload_n 3, 66, 0, .null, [], [])), (66, (.iadd, 67, 0, .null, [], [])), (67, (.iaload, 68, 0, .null, [], [])), (68, (.invokevirtual 367, 71, 0, .null, [], [])), (71, (.iinc 3 1, 74, 0, .int (1), [], [])), (74, (.goto (-29), 77, 45, .null, [], [])), (77, (.aload_n 0, 78, 0, .null, [], [])), (78, (.getfield 106, 81, 0, .null, [], [(10, 52)])), (81, (.iload_n 1, 82, 0, .null, [], [])), (82, (.dup2, 83, 0, .null, [], [])), (83, (.iaload, 84, 0, .null, [], [])), (84, (.iconst 1, 85, 0, .int (1), [], [])), (85, (.iadd, 86, 0, .null, [], [])), (86, (.iastore, 87, 0, .null, [], [])), (87, (.aload_n 0, 88, 0, .null, [], [])), (88, (.getfield 103, 91, 0, .null, [], [(10, 51)])), (91, (.iload_n 1, 92, 0, .null, [], [])), (92, (.iconst 2, 93, 0, .int (2), [], [])), (93, (.iastore, 94, 0, .null, [], [])), (94, (.aload_n 0, 95, 0, .null, [], [])), (95, (.getfield 106, 98, 0, .null, [], [(10, 52)])), (98, (.iload_n 1, 99, 0, .null, [], [])), (99, (.iaload, 100, 0, .null, [], [])), (100, (.aload_n 0, 101, 0, .null, [], [])), (101, (.getfield 100, 104, 0, .null, [], [(10, 50)])), (104, (.aload_n 0, 105, 0, .null, [], [])), (105, (.getfield 55, 108, 0, .null, [], [(10, 23)])), (108, (.iload_n 1, 109, 0, .null, [], [])), (109, (.iaload, 110, 0, .null, [], [])), (110, (.iaload, 111, 0, .null, [], [])), (111, (.if_icmp .ne 5, 114, 116, .null, [], [])), (114, (.iconst (-1), 115, 0, .int (-1), [], [])), (115, (.ireturn, 116, 0, .null, [], [])), (116, (.aload_n 0, 117, 0, .null, [], [])), (117, (.getfield 82, 120, 0, .null, [], [(10, 34)])), (120, (.iload_n 1, 121, 0, .null, [], [])), (121, (.aload_n 0, 122, 0, .null, [], [])), (122, (.getfield 97, 125, 0, .null, [], [(10, 49)])), (125, (.bipush 60, 127, 0, .int (60), [], [])), (127, (.aload_n 0, 128, 0, .null, [], [])), (128, (.getfield 55, 131, 0, .null, [], [(10, 23)])), (131, (.iload_n 1, 132, 0, .null, [], [])), (132, (.iaload, 133, 0, .null, [], [])), (133, (.imul, 134, 0, .null, [], [])), (134, (.aload_n 0, 135, 0, .null, [], [])), (135, (.getfield 106, 138, 0, .null, [], [(10, 52)])), (138, (.iload_n 1, 139, 0, .null, [], [])), (139, (.iaload, 140, 0, .null, [], [])), (140, (.iadd, 141, 0, .null, [], [])), (141, (.iaload, 142, 0, .null, [], [])), (142, (.iastore, 143, 0, .null, [], [])), (143, (.iload_n 2, 144, 0, .null, [], [])), (144, (.ireturn, 145, 0, .null, [], []))]
noncomputable abbrev jX12_opensRow : List (Nat × sf_J (Int32 × sf_S)) := [(38, sf_jV sf_layM [10] 3 gX12_fails), (68, sf_jV sf_layM [10] 3 gX12_adds)]
abbrev wX12_opensRow_87 {ρ : Type} (k : Int32 → Int32 → sf_S → Option ρ) : sf_M ρ := fun L st σ => sf_lda L 0 fun a0 => sf_eq a0 0 (sf_ldi L 1 fun x1 => sf_ldi L 2 fun x2 => sf_nil st (k x1 x2 σ))
theorem wX12_opensRow_87_ok {ρ : Type} {Wt : Nat → sf_L → List Value → sf_S → Prop} {Post : ρ → Prop} (hm : sf_mono Wt) {k : Int32 → Int32 → sf_S → Option ρ} (h : ∀ (x1 : Int32) (x2 : Int32) (σ : sf_S) (u : ρ), k x1 x2 σ = some u → Post u → Wt 87 [(0, some (.ref 0)), (1, some (.int x1)), (2, some (.int x2))] [] σ) : sf_CK Wt Post 87 (wX12_opensRow_87 k) := by
  intro L st σ u hf hp
  unfold wX12_opensRow_87 at hf
  have hf0 := hf
  obtain ⟨a0, e0, hf1⟩ := sf_lda_inv hf0
  obtain ⟨rfl, hf2⟩ := sf_eq_inv hf1
  obtain ⟨x1, e1, hf3⟩ := sf_ldi_inv hf2
  obtain ⟨x2, e2, hf4⟩ := sf_ldi_inv hf3
  obtain ⟨rfl, hz⟩ := sf_nil_inv hf4
  exact hm _ [(0, some (.ref _)), (1, some (.int x1)), (2, some (.int x2))] _ _ _ (sf_le_ok (And.intro e0 (And.intro e1 (And.intro e2 trivial)))) (h _ _ _ _ hz hp)
abbrev wX12_opensRow_45 {ρ : Type} (k : Int32 → Int32 → Int32 → sf_S → Option ρ) : sf_M ρ := fun L st σ => sf_lda L 0 fun a0 => sf_eq a0 0 (sf_ldi L 1 fun x1 => sf_ldi L 2 fun x2 => sf_ldi L 3 fun x3 => sf_nil st (k x1 x2 x3 σ))
theorem wX12_opensRow_45_ok {ρ : Type} {Wt : Nat → sf_L → List Value → sf_S → Prop} {Post : ρ → Prop} (hm : sf_mono Wt) {k : Int32 → Int32 → Int32 → sf_S → Option ρ} (h : ∀ (x1 : Int32) (x2 : Int32) (x3 : Int32) (σ : sf_S) (u : ρ), k x1 x2 x3 σ = some u → Post u → Wt 45 [(0, some (.ref 0)), (1, some (.int x1)), (2, some (.int x2)), (3, some (.int x3))] [] σ) : sf_CK Wt Post 45 (wX12_opensRow_45 k) := by
  intro L st σ u hf hp
  unfold wX12_opensRow_45 at hf
  have hf0 := hf
  obtain ⟨a0, e0, hf1⟩ := sf_lda_inv hf0
  obtain ⟨rfl, hf2⟩ := sf_eq_inv hf1
  obtain ⟨x1, e1, hf3⟩ := sf_ldi_inv hf2
  obtain ⟨x2, e2, hf4⟩ := sf_ldi_inv hf3
  obtain ⟨x3, e3, hf5⟩ := sf_ldi_inv hf4
  obtain ⟨rfl, hz⟩ := sf_nil_inv hf5
  exact hm _ [(0, some (.ref _)), (1, some (.int x1)), (2, some (.int x2)), (3, some (.int x3))] _ _ _ (sf_le_ok (And.intro e0 (And.intro e1 (And.intro e2 (And.intro e3 trivial))))) (h _ _ _ _ _ hz hp)
noncomputable def dX12_opensRow_87 (x1 : Int32) (x2 : Int32) (σ : sf_S) : Option (Int32 × sf_S) :=
  if sf_in x1 40 then
    let s1 := sf_up σ 32 x1.toNatClampNeg (2 : Int32)
    if sf_in x1 40 then
      if sf_in x1 40 then
        let v2 := (s1 16 x1.toNatClampNeg)
        if sf_in v2 40 then
          if ¬ (s1 33 x1.toNatClampNeg) = (s1 31 v2.toNatClampNeg) then
            if sf_in x1 40 then
              if sf_in x1 40 then
                let v3 := (((60 : Int32) * (s1 16 x1.toNatClampNeg)) + (s1 33 x1.toNatClampNeg))
                if sf_in v3 2400 then
                  if sf_in x1 40 then
                    let s4 := sf_up s1 25 x1.toNatClampNeg (s1 30 v3.toNatClampNeg)
                    some (x2, s4)
                  else
                    none
                else
                  none
              else
                none
            else
              none
          else
            some ((-1 : Int32), s1)
        else
          none
      else
        none
    else
      none
  else
    none
set_option maxRecDepth 100000 in
set_option maxHeartbeats 4000000 in
theorem rX12_opensRow_87 {Wt : Nat → sf_L → List Value → sf_S → Prop} {Post : (Int32 × sf_S) → Prop} (hs : sf_Snd Wt sf_layM sf_hI jX12_opensRow tX12_opensRow Post) (hm : sf_mono Wt) : sf_CK Wt Post 87 (wX12_opensRow_87 (dX12_opensRow_87)) := by
  refine wX12_opensRow_87_ok hm ?_
  intro x1 x2 σ u h hp
  exact sf_run_ok hs sf_sm_nil 101 87 _ _ σ u h hp
noncomputable def dX12_opensRow_45 : Nat → Int32 → Int32 → Int32 → sf_S → Option (Int32 × sf_S)
  | 0 => fun _ _ _ _ => none
  | n + 1 => fun x1 x2 x3 σ =>
    if sf_in x2 40 then
      if (σ 31 x2.toNatClampNeg) ≤ x3 then
        if sf_in x1 40 then
          if sf_in x1 40 then
            let s1 := sf_up σ 33 x1.toNatClampNeg ((σ 33 x1.toNatClampNeg) + (1 : Int32))
            dX12_opensRow_87 x1 x2 s1
          else
            none
        else
          none
      else
        let v2 := (((60 : Int32) * x2) + x3)
        if sf_in v2 2400 then
          (dX12_adds x1 (σ 30 v2.toNatClampNeg) σ).bind fun u3 =>
          dX12_opensRow_45 n x1 x2 (x3 + (1 : Int32)) u3
        else
          none
    else
      none
set_option maxRecDepth 100000 in
set_option maxHeartbeats 4000000 in
theorem rX12_opensRow_45 {Wt : Nat → sf_L → List Value → sf_S → Prop} {Post : (Int32 × sf_S) → Prop} (hs : sf_Snd Wt sf_layM sf_hI jX12_opensRow tX12_opensRow Post) (hm : sf_mono Wt) : ∀ n : Nat, sf_CK Wt Post 45 (wX12_opensRow_45 (dX12_opensRow_45 n)) := by
  intro n
  induction n with
  | zero => exact wX12_opensRow_45_ok hm (fun x1 x2 x3 σ u h _ => by simp [dX12_opensRow_45] at h)
  | succ n ih =>
    refine wX12_opensRow_45_ok hm ?_
    intro x1 x2 x3 σ u h hp
    exact sf_run_ok hs (sf_sm_cons ih (sf_sm_cons (rX12_opensRow_87 hs hm) sf_sm_nil)) 101 45 _ _ σ u h hp
noncomputable def dX12_opensRow (x1 : Int32) (σ : sf_S) : Option (Int32 × sf_S) :=
  if sf_in x1 40 then
    let v1 := (σ 17 x1.toNatClampNeg)
    if sf_in x1 40 then
      if ¬ (σ 32 x1.toNatClampNeg) = (2 : Int32) then
        dX12_opensRow_87 x1 v1 σ
      else
        if sf_in x1 40 then
          if sf_in v1 40 then
            if ((σ 31 x1.toNatClampNeg) + (σ 31 v1.toNatClampNeg)) ≤ (60 : Int32) then
              dX12_opensRow_45 sf_F x1 v1 (0 : Int32) σ
            else
              (dX12_fails (4 : Int32) x1 σ).bind fun u2 =>
              some ((-1 : Int32), u2)
          else
            none
        else
          none
    else
      none
  else
    none
noncomputable abbrev gX12_opensRow (av : List Value) (σ : sf_S) : Option (Int32 × sf_S) := match av with
  | [.ref q, .int x1] => (match sf_rv [0] q with | true => dX12_opensRow x1 σ | false => none)
  | _ => none
set_option maxRecDepth 100000 in
set_option maxHeartbeats 4000000 in
theorem rX12_opensRow {Wt : Nat → sf_L → List Value → sf_S → Prop} {Post : (Int32 × sf_S) → Prop} (hs : sf_Snd Wt sf_layM sf_hI jX12_opensRow tX12_opensRow Post) (hm : sf_mono Wt) : ∀ av σ u, gX12_opensRow av σ = some u → Post u → (∀ ad, (lg_sl (av.map (sf_v ad))).length ≤ 4) ∧ Wt 0 (sf_ent 0 av) [] σ := by
  intro av σ u h hp
  unfold gX12_opensRow at h
  split at h
  · rename_i q x1
    split at h
    · rename_i hq
      have hq : q = 0 := by simpa using sf_rv_mem hq
      subst hq
      refine ⟨fun ad => Nat.le_of_ble_eq_true rfl, ?_⟩
      exact sf_run_ok hs (sf_sm_cons (rX12_opensRow_45 hs hm sf_F) (sf_sm_cons (rX12_opensRow_87 hs hm) sf_sm_nil)) 101 0 _ _ σ u h hp
    · cases h
  · cases h
theorem kX12_opensRow (l : Launch) : sf_C l sf_layM yX12_opensRow cX12_opensRow 4 (some .int) (sf_rm 2 122) (fun av σ => (gX12_opensRow av σ).map sf_vI) :=
  sf_met (tab := tX12_opensRow) (J := jX12_opensRow) (fl := sf_fl12) (cl := sf_cl12) (by decide +kernel) ⟨rfl, rfl⟩ sf_RH_I (by decide +kernel) sf_fl12_ok sf_cl12_ok
    (sf_JO_cons (sf_je_V (n := 3) (cs := [10]) (tv := sf_vV) (kX12_fails l) mwX12_fails (by decide +kernel : decode cX12_opensRow 38 = .ok (.invokevirtual 306, 3)) wt_1595 wt_1597 wt_116 (by decide +kernel) (by decide) (by decide) (List.forall_mem_cons.mpr ⟨⟨_, _, rfl⟩, fun _ h => absurd h List.not_mem_nil⟩) (sf_RM_of (by omega) (by omega))) (sf_JO_cons (sf_je_V (n := 3) (cs := [10]) (tv := sf_vV) (kX12_adds l) mwX12_adds (by decide +kernel : decode cX12_opensRow 68 = .ok (.invokevirtual 367, 3)) wt_1599 wt_1601 wt_117 (by decide +kernel) (by decide) (by decide) (List.forall_mem_cons.mpr ⟨⟨_, _, rfl⟩, fun _ h => absurd h List.not_mem_nil⟩) (sf_RM_of (by omega) (by omega))) (sf_JO_nil)))
    (fun Wt Post hs hm => rX12_opensRow hs hm)
-- ===== StreamFuserModel.wantsRow(I)I =====
abbrev tX12_wantsRow : List (Nat × sf_E) := [(0, (.aload_n 0, 1, 0, .null, [], [])), (1, (.getfield 40, 4, 0, .null, [], [(10, 17)])), (4, (.iload_n 1, 5, 0, .null, [], [])), (5, (.iaload, 6, 0, .null, [], [])), (6, (.invokestatic 163, 9, 0, .null, [], [])), (9, (.istore_n 2, 10, 0, .null, [], [])), (10, (.aload_n 0, 11, 0, .null, [], [])), (11, (.getfield 103, 14, 0, .null, [], [(10, 51)])), (14, (.iload_n 1, 15, 0, .null, [], [])), (15, (.iaload, 16, 0, .null, [], [])), (16, (.istore_n 3, 17, 0, .null, [], [])), (17, (.iload_n 3, 18, 0, .null, [], [])), (18, (.ifCond .ne 17, 21, 35, .null, [], [])), (21, (.aload_n 0, 22, 0, .null, [], [])), (22, (.getfield 100, 25, 0, .null, [], [(10, 50)])), (25, (.iload_n 1, 26, 0, .null, [], [])), (26, (.iconst 0, 27, 0, .int (0), [], [])), (27, (.iastore, 28, 0, .null, [], [])), (28, (.aload_n 0, 29, 0, .null, [], [])), (29, (.getfield 106, 32, 0, .null, [], [(10, 52)])), (32, (.iload_n 1, 33, 0, .null, [], [])), (33, (.iconst 0, 34, 0, .int (0), [], [])), (34, (.iastore, 35, 0, .null, [], [])), (35, (.iload_n 2, 36, 0, .null, [], [])), (36, (.ifCond .le 21, 39, 57, .null, [], [])), (39, (.iload_n 3, 40, 0, .null, [], [])), (40, (.ifCond .ne 17, 43, 57, .null, [], [])), (43, (.aload_n 0, 44, 0, .null, [], [])), (44, (.getfield 103, 47, 0, .null, [], [(10, 51)])), (47, (.iload_n 1, 48, 0, .null, [], [])), (48, (.iconst 1, 49, 0, .int (1), [], [])), (49, (.iastore, 50, 0, .null, [], [])), (50, (.aload_n 0, 51, 0, .null, [], [])), (51, (.getfield 55, 54, 0, .null, [], [(10, 23)])), (54, (.iload_n 1, 55, 0, .null, [], [])), (55, (.iaload, 56, 0, .null, [], [])), (56, (.ireturn, 57, 0, .null, [], [])), (57, (.aload_n 0, 58, 0, .null, [], [])), (58, (.getfield 40, 61, 0, .null, [], [(10, 17)])), (61, (.iload_n 1, 62, 0, .null, [], [])), (62, (.iaload, 63, 0, .null, [], [])), (63, (.bipush 120, 65, 0, .int (120), [], [])), (65, (.if_icmp .ne 9, 68, 74, .null, [], [])), (68, (.aload_n 0, 69, 0, .null, [], [])), (69, (.iload_n 1, 70, 0, .null, [], [])), (70, (.invokevirtual 370, 73, 0, .null, [], [])), (73, (.ireturn, 74, 0, .null, [], [])), (74, (.iload_n 2, 75, 0, .null, [], [])), (75, (.iconst 2, 76, 0, .int (2), [], [])), (76, (.if_icmp .ne 22, 79, 98, .null, [], [])), (79, (.iload_n 3, 80, 0, .null, [], [])), (80, (.iconst 1, 81, 0, .int (1), [], [])), (81, (.if_icmp .ne 17, 84, 98, .null, [], [])), (84, (.aload_n 0, 85, 0, .null, [], [])), (85, (.getfield 103, 88, 0, .null, [], [(10, 51)])), (88, (.iload_n 1, 89, 0, .null, [], [])), (89, (.iconst 2, 90, 0, .int (2), [], [])), (90, (.iastore, 91, 0, .null, [], [])), (91, (.aload_n 0, 92, 0, .null, [], [])), (92, (.getfield 58, 95, 0, .null, [], [(10, 24)])), (95, (.iload_n 1, 96, 0, .null, [], [])), (96, (.iaload, 97, 0, .null, [], [])), (97, (.ireturn, 98, 0, .null, [], [])), (98, (.iload_n 2, 99, 0, .null, [], [])), (99, (.ifCond .ne 11, 102, 110, .null, [], [])), (102, (.aload_n 0, 103, 0, .null, [], [])), (103, (.iload_n 1, 104, 0, .null, [], [])), (104, (.invokevirtual 373, 107, 0, .null, [], [])), (107, (.goto 21, 110, 128, .null, [], [])), (110, (.iload_n 2, 111, 0, .null, [], [])), (111, (.iconst 1, 112, 0, .int (1), [], [])), (112, (.if_icmp .ne 11, 115, 123, .null, [], [])), (115, (.aload_n 0, 116, 0, .null, [], [])), (116, (.iload_n 1, 117, 0, .null, [], [])), (117, (.invokevirtual 376, 120, 0, .null, [], [])), (120, (.goto 8, 123, 128, .null, [], [])), (123, (.aload_n 0, 124, 0, .null, [], [])), (124, (.iload_n 1, 125, 0, .null, [], [])), (125, (.invokevirtual 379, 128, 0, .null, [], [])), (128, (.iconst (-1), 129, 0, .int (-1), [], [])), (129, (.ireturn, 130, 0, .null, [], []))]
noncomputable abbrev jX12_wantsRow : List (Nat × sf_J (Int32 × sf_S)) := [(6, sf_jI sf_layM [] 1 gX12_partsOf), (70, sf_jI sf_layM [10] 2 gX12_opensRow), (104, sf_jV sf_layM [10] 2 gX12_fills), (117, sf_jV sf_layM [10] 2 gX12_changesRow), (125, sf_jV sf_layM [10] 2 gX12_joinsRows)]
abbrev wX12_wantsRow_98 {ρ : Type} (k : Int32 → Int32 → sf_S → Option ρ) : sf_M ρ := fun L st σ => sf_lda L 0 fun a0 => sf_eq a0 0 (sf_ldi L 1 fun x1 => sf_ldi L 2 fun x2 => sf_nil st (k x1 x2 σ))
theorem wX12_wantsRow_98_ok {ρ : Type} {Wt : Nat → sf_L → List Value → sf_S → Prop} {Post : ρ → Prop} (hm : sf_mono Wt) {k : Int32 → Int32 → sf_S → Option ρ} (h : ∀ (x1 : Int32) (x2 : Int32) (σ : sf_S) (u : ρ), k x1 x2 σ = some u → Post u → Wt 98 [(0, some (.ref 0)), (1, some (.int x1)), (2, some (.int x2))] [] σ) : sf_CK Wt Post 98 (wX12_wantsRow_98 k) := by
  intro L st σ u hf hp
  unfold wX12_wantsRow_98 at hf
  have hf0 := hf
  obtain ⟨a0, e0, hf1⟩ := sf_lda_inv hf0
  obtain ⟨rfl, hf2⟩ := sf_eq_inv hf1
  obtain ⟨x1, e1, hf3⟩ := sf_ldi_inv hf2
  obtain ⟨x2, e2, hf4⟩ := sf_ldi_inv hf3
  obtain ⟨rfl, hz⟩ := sf_nil_inv hf4
  exact hm _ [(0, some (.ref _)), (1, some (.int x1)), (2, some (.int x2))] _ _ _ (sf_le_ok (And.intro e0 (And.intro e1 (And.intro e2 trivial)))) (h _ _ _ _ hz hp)
abbrev wX12_wantsRow_57 {ρ : Type} (k : Int32 → Int32 → Int32 → sf_S → Option ρ) : sf_M ρ := fun L st σ => sf_lda L 0 fun a0 => sf_eq a0 0 (sf_ldi L 1 fun x1 => sf_ldi L 2 fun x2 => sf_ldi L 3 fun x3 => sf_nil st (k x1 x2 x3 σ))
theorem wX12_wantsRow_57_ok {ρ : Type} {Wt : Nat → sf_L → List Value → sf_S → Prop} {Post : ρ → Prop} (hm : sf_mono Wt) {k : Int32 → Int32 → Int32 → sf_S → Option ρ} (h : ∀ (x1 : Int32) (x2 : Int32) (x3 : Int32) (σ : sf_S) (u : ρ), k x1 x2 x3 σ = some u → Post u → Wt 57 [(0, some (.ref 0)), (1, some (.int x1)), (2, some (.int x2)), (3, some (.int x3))] [] σ) : sf_CK Wt Post 57 (wX12_wantsRow_57 k) := by
  intro L st σ u hf hp
  unfold wX12_wantsRow_57 at hf
  have hf0 := hf
  obtain ⟨a0, e0, hf1⟩ := sf_lda_inv hf0
  obtain ⟨rfl, hf2⟩ := sf_eq_inv hf1
  obtain ⟨x1, e1, hf3⟩ := sf_ldi_inv hf2
  obtain ⟨x2, e2, hf4⟩ := sf_ldi_inv hf3
  obtain ⟨x3, e3, hf5⟩ := sf_ldi_inv hf4
  obtain ⟨rfl, hz⟩ := sf_nil_inv hf5
  exact hm _ [(0, some (.ref _)), (1, some (.int x1)), (2, some (.int x2)), (3, some (.int x3))] _ _ _ (sf_le_ok (And.intro e0 (And.intro e1 (And.intro e2 (And.intro e3 trivial))))) (h _ _ _ _ _ hz hp)
abbrev wX12_wantsRow_35 {ρ : Type} (k : Int32 → Int32 → Int32 → sf_S → Option ρ) : sf_M ρ := fun L st σ => sf_lda L 0 fun a0 => sf_eq a0 0 (sf_ldi L 1 fun x1 => sf_ldi L 2 fun x2 => sf_ldi L 3 fun x3 => sf_nil st (k x1 x2 x3 σ))
theorem wX12_wantsRow_35_ok {ρ : Type} {Wt : Nat → sf_L → List Value → sf_S → Prop} {Post : ρ → Prop} (hm : sf_mono Wt) {k : Int32 → Int32 → Int32 → sf_S → Option ρ} (h : ∀ (x1 : Int32) (x2 : Int32) (x3 : Int32) (σ : sf_S) (u : ρ), k x1 x2 x3 σ = some u → Post u → Wt 35 [(0, some (.ref 0)), (1, some (.int x1)), (2, some (.int x2)), (3, some (.int x3))] [] σ) : sf_CK Wt Post 35 (wX12_wantsRow_35 k) := by
  intro L st σ u hf hp
  unfold wX12_wantsRow_35 at hf
  have hf0 := hf
  obtain ⟨a0, e0, hf1⟩ := sf_lda_inv hf0
  obtain ⟨rfl, hf2⟩ := sf_eq_inv hf1
  obtain ⟨x1, e1, hf3⟩ := sf_ldi_inv hf2
  obtain ⟨x2, e2, hf4⟩ := sf_ldi_inv hf3
  obtain ⟨x3, e3, hf5⟩ := sf_ldi_inv hf4
  obtain ⟨rfl, hz⟩ := sf_nil_inv hf5
  exact hm _ [(0, some (.ref _)), (1, some (.int x1)), (2, some (.int x2)), (3, some (.int x3))] _ _ _ (sf_le_ok (And.intro e0 (And.intro e1 (And.intro e2 (And.intro e3 trivial))))) (h _ _ _ _ _ hz hp)
noncomputable def dX12_wantsRow_98 (x1 : Int32) (x2 : Int32) (σ : sf_S) : Option (Int32 × sf_S) :=
  if ¬ x2 = 0 then
    if ¬ x2 = (1 : Int32) then
      (dX12_joinsRows x1 σ).bind fun u1 =>
      some ((-1 : Int32), u1)
    else
      (dX12_changesRow x1 σ).bind fun u2 =>
      some ((-1 : Int32), u2)
  else
    (dX12_fills x1 σ).bind fun u3 =>
    some ((-1 : Int32), u3)
set_option maxRecDepth 100000 in
set_option maxHeartbeats 4000000 in
theorem rX12_wantsRow_98 {Wt : Nat → sf_L → List Value → sf_S → Prop} {Post : (Int32 × sf_S) → Prop} (hs : sf_Snd Wt sf_layM sf_hI jX12_wantsRow tX12_wantsRow Post) (hm : sf_mono Wt) : sf_CK Wt Post 98 (wX12_wantsRow_98 (dX12_wantsRow_98)) := by
  refine wX12_wantsRow_98_ok hm ?_
  intro x1 x2 σ u h hp
  exact sf_run_ok hs sf_sm_nil 86 98 _ _ σ u h hp
noncomputable def dX12_wantsRow_57 (x1 : Int32) (x2 : Int32) (x3 : Int32) (σ : sf_S) : Option (Int32 × sf_S) :=
  if sf_in x1 40 then
    if ¬ (σ 11 x1.toNatClampNeg) = (120 : Int32) then
      if ¬ x2 = (2 : Int32) then
        dX12_wantsRow_98 x1 x2 σ
      else
        if ¬ x3 = (1 : Int32) then
          dX12_wantsRow_98 x1 x2 σ
        else
          if sf_in x1 40 then
            let s1 := sf_up σ 32 x1.toNatClampNeg (2 : Int32)
            if sf_in x1 40 then
              some ((s1 17 x1.toNatClampNeg), s1)
            else
              none
          else
            none
    else
      (dX12_opensRow x1 σ).bind fun u2 =>
      some (u2.1, u2.2)
  else
    none
set_option maxRecDepth 100000 in
set_option maxHeartbeats 4000000 in
theorem rX12_wantsRow_57 {Wt : Nat → sf_L → List Value → sf_S → Prop} {Post : (Int32 × sf_S) → Prop} (hs : sf_Snd Wt sf_layM sf_hI jX12_wantsRow tX12_wantsRow Post) (hm : sf_mono Wt) : sf_CK Wt Post 57 (wX12_wantsRow_57 (dX12_wantsRow_57)) := by
  refine wX12_wantsRow_57_ok hm ?_
  intro x1 x2 x3 σ u h hp
  exact sf_run_ok hs (sf_sm_cons (rX12_wantsRow_98 hs hm) sf_sm_nil) 86 57 _ _ σ u h hp
noncomputable def dX12_wantsRow_35 (x1 : Int32) (x2 : Int32) (x3 : Int32) (σ : sf_S) : Option (Int32 × sf_S) :=
  if x2 ≤ 0 then
    dX12_wantsRow_57 x1 x2 x3 σ
  else
    if ¬ x3 = 0 then
      dX12_wantsRow_57 x1 x2 x3 σ
    else
      if sf_in x1 40 then
        let s1 := sf_up σ 32 x1.toNatClampNeg (1 : Int32)
        if sf_in x1 40 then
          some ((s1 16 x1.toNatClampNeg), s1)
        else
          none
      else
        none
set_option maxRecDepth 100000 in
set_option maxHeartbeats 4000000 in
theorem rX12_wantsRow_35 {Wt : Nat → sf_L → List Value → sf_S → Prop} {Post : (Int32 × sf_S) → Prop} (hs : sf_Snd Wt sf_layM sf_hI jX12_wantsRow tX12_wantsRow Post) (hm : sf_mono Wt) : sf_CK Wt Post 35 (wX12_wantsRow_35 (dX12_wantsRow_35)) := by
  refine wX12_wantsRow_35_ok hm ?_
  intro x1 x2 x3 σ u h hp
  exact sf_run_ok hs (sf_sm_cons (rX12_wantsRow_57 hs hm) sf_sm_nil) 86 35 _ _ σ u h hp
noncomputable def dX12_wantsRow (x1 : Int32) (σ : sf_S) : Option (Int32 × sf_S) :=
  if sf_in x1 40 then
    (dX12_partsOf (σ 11 x1.toNatClampNeg) σ).bind fun u1 =>
    if sf_in x1 40 then
      let v2 := (u1.2 32 x1.toNatClampNeg)
      if ¬ v2 = 0 then
        dX12_wantsRow_35 x1 u1.1 v2 u1.2
      else
        if sf_in x1 40 then
          let s3 := sf_up u1.2 31 x1.toNatClampNeg (0 : Int32)
          if sf_in x1 40 then
            let s4 := sf_up s3 33 x1.toNatClampNeg (0 : Int32)
            dX12_wantsRow_35 x1 u1.1 v2 s4
          else
            none
        else
          none
    else
      none
  else
    none
noncomputable abbrev gX12_wantsRow (av : List Value) (σ : sf_S) : Option (Int32 × sf_S) := match av with
  | [.ref q, .int x1] => (match sf_rv [0] q with | true => dX12_wantsRow x1 σ | false => none)
  | _ => none
set_option maxRecDepth 100000 in
set_option maxHeartbeats 4000000 in
theorem rX12_wantsRow {Wt : Nat → sf_L → List Value → sf_S → Prop} {Post : (Int32 × sf_S) → Prop} (hs : sf_Snd Wt sf_layM sf_hI jX12_wantsRow tX12_wantsRow Post) (hm : sf_mono Wt) : ∀ av σ u, gX12_wantsRow av σ = some u → Post u → (∀ ad, (lg_sl (av.map (sf_v ad))).length ≤ 4) ∧ Wt 0 (sf_ent 0 av) [] σ := by
  intro av σ u h hp
  unfold gX12_wantsRow at h
  split at h
  · rename_i q x1
    split at h
    · rename_i hq
      have hq : q = 0 := by simpa using sf_rv_mem hq
      subst hq
      refine ⟨fun ad => Nat.le_of_ble_eq_true rfl, ?_⟩
      exact sf_run_ok hs (sf_sm_cons (rX12_wantsRow_35 hs hm) sf_sm_nil) 86 0 _ _ σ u h hp
    · cases h
  · cases h
theorem kX12_wantsRow (l : Launch) : sf_C l sf_layM yX12_wantsRow cX12_wantsRow 4 (some .int) (sf_rm 4 174) (fun av σ => (gX12_wantsRow av σ).map sf_vI) :=
  sf_met (tab := tX12_wantsRow) (J := jX12_wantsRow) (fl := sf_fl12) (cl := sf_cl12) (by decide +kernel) ⟨rfl, rfl⟩ sf_RH_I (by decide +kernel) sf_fl12_ok sf_cl12_ok
    (sf_JO_cons (sf_je_S (n := 1) (tv := sf_vI) (kX12_partsOf l) mwX12_partsOf (by decide +kernel : decode cX12_wantsRow 6 = .ok (.invokestatic 163, 3)) wt_1431 wt_1432 (by decide +kernel) (sf_RM_of (by omega) (by omega))) (sf_JO_cons (sf_je_V (n := 2) (cs := [10]) (tv := sf_vI) (kX12_opensRow l) mwX12_opensRow (by decide +kernel : decode cX12_wantsRow 70 = .ok (.invokevirtual 370, 3)) wt_1591 wt_1593 wt_115 (by decide +kernel) (by decide) (by decide) (List.forall_mem_cons.mpr ⟨⟨_, _, rfl⟩, fun _ h => absurd h List.not_mem_nil⟩) (sf_RM_of (by omega) (by omega))) (sf_JO_cons (sf_je_V (n := 2) (cs := [10]) (tv := sf_vV) (kX12_fills l) mwX12_fills (by decide +kernel : decode cX12_wantsRow 104 = .ok (.invokevirtual 373, 3)) wt_1603 wt_1605 wt_118 (by decide +kernel) (by decide) (by decide) (List.forall_mem_cons.mpr ⟨⟨_, _, rfl⟩, fun _ h => absurd h List.not_mem_nil⟩) (sf_RM_of (by omega) (by omega))) (sf_JO_cons (sf_je_V (n := 2) (cs := [10]) (tv := sf_vV) (kX12_changesRow l) mwX12_changesRow (by decide +kernel : decode cX12_wantsRow 117 = .ok (.invokevirtual 376, 3)) wt_1612 wt_1614 wt_120 (by decide +kernel) (by decide) (by decide) (List.forall_mem_cons.mpr ⟨⟨_, _, rfl⟩, fun _ h => absurd h List.not_mem_nil⟩) (sf_RM_of (by omega) (by omega))) (sf_JO_cons (sf_je_V (n := 2) (cs := [10]) (tv := sf_vV) (kX12_joinsRows l) mwX12_joinsRows (by decide +kernel : decode cX12_wantsRow 125 = .ok (.invokevirtual 379, 3)) wt_1628 wt_1630 wt_124 (by decide +kernel) (by decide) (by decide) (List.forall_mem_cons.mpr ⟨⟨_, _, rfl⟩, fun _ h => absurd h List.not_mem_nil⟩) (sf_RM_of (by omega) (by omega))) (sf_JO_nil))))))
    (fun Wt Post hs hm => rX12_wantsRow hs hm)
-- ===== StreamFuserModel.makesRows()V =====
abbrev tX12_makesRows : List (Nat × sf_E) := [(0, (.aload_n 0, 1, 0, .null, [], [])), (1, (.getfield 94, 4, 0, .null, [], [(10, 47)])), (4, (.iconst 0, 5, 0, .int (0), [], [])), (5, (.iconst 0, 6, 0, .int (0), [], [])), (6, (.iastore, 7, 0, .null, [], [])), (7, (.aload_n 0, 8, 0, .null, [], [])), (8, (.iconst 1, 9, 0, .int (1), [], [])), (9, (.putfield 349, 12, 0, .null, [], [(10, 48)])), (12, (.aload_n 0, 13, 0, .null, [], [])), (13, (.getfield 103, 16, 0, .null, [], [(10, 51)])), (16, (.iconst 0, 17, 0, .int (0), [], [])), (17, (.iconst 0, 18, 0, .int (0), [], [])), (18, (.iastore, 19, 0, .null, [], [])), (19, (.iconst 0, 20, 0, .int (0), [], [])), (20, (.istore_n 1, 21, 0, .null, [], [])), (21, (.iload_n 1, 22, 0, .null, [], [])), (22, (.ldc_w 352, 25, 0, .int (100000000), [], [])), (25, (.if_icmp .ge 125, 28, 150, .null, [], [])), (28, (.aload_n 0, 29, 0, .null, [], [])), (29, (.getfield 349, 32, 0, .null, [], [(10, 48)])), (32, (.ifCond .le 118, 35, 150, .null, [], [])), (35, (.aload_n 0, 36, 0, .null, [], [])), (36, (.getfield 294, 39, 0, .null, [], [(10, 35)])), (39, (.ifCond .ne 111, 42, 150, .null, [], [])), (42, (.aload_n 0, 43, 0, .null, [], [])), (43, (.getfield 94, 46, 0, .null, [], [(10, 47)])), (46, (.aload_n 0, 47, 0, .null, [], [])), (47, (.getfield 349, 50, 0, .null, [], [(10, 48)])), (50, (.iconst 1, 51, 0, .int (1), [], [])), (51, (.isub, 52, 0, .null, [], [])), (52, (.iaload, 53, 0, .null, [], [])), (53, (.istore_n 2, 54, 0, .null, [], [])), (54, (.aload_n 0, 55, 0, .null, [], [])), (55, (.iload_n 2, 56, 0, .null, [], [])), (56, (.invokevirtual 382, 59, 0, .null, [], [])), (59, (.istore_n 3, 60, 0, .null, [], [])), (60, (.aload_n 0, 61, 0, .null, [], [])), (61, (.getfield 294, 64, 0, .null, [], [(10, 35)])), (64, (.ifCond .ne 38, 67, 102, .null, [], [])), (67, (.iload_n 3, 68, 0, .null, [], [])), (68, (.iconst (-1), 69, 0, .int (-1), [], [])), (69, (.if_icmp .eq 33, 72, 102, .null, [], [])), (72, (.aload_n 0, 73, 0, .null, [], [])), (73, (.getfield 103, 76, 0, .null, [], [(10, 51)])), (76, (.iload_n 3, 77, 0, .null, [], [])), (77, (.iconst 0, 78, 0, .int (0), [], [])), (78, (.iastore, 79, 0, .null, [], [])), (79, (.aload_n 0, 80, 0, .null, [], [])), (80, (.getfield 94, 83, 0, .null, [], [(10, 47)])), (83, (.aload_n 0, 84, 0, .null, [], [])), (84, (.getfield 349, 87, 0, .null, [], [(10, 48)])), (87, (.iload_n 3, 88, 0, .null, [], [])), (88, (.iastore, 89, 0, .null, [], [])), (89, (.aload_n 0, 90, 0, .null, [], [])), (90, (.dup, 91, 0, .null, [], [])), (91, (.getfield 349, 94, 0, .null, [], [(10, 48)])), (94, (.iconst 1, 95, 0, .int (1), [], [])), (95, (.iadd, 96, 0, .null, [], [])), (96, (.putfield 349, 99, 0, .null, [], [(10, 48)])), (99, (.goto 45, 102, 144, .null, [], [])), (102, (.aload_n 0, 103, 0, .null, [], [])), (103, (.getfield 294, 106, 0, .null, [], [(10, 35)])), (106, (.ifCond .ne 38, 109, 144, .null, [], [])), (109, (.aload_n 0, 110, 0, .null, [], [])), (110, (.dup, 111, 0, .null, [], [])), (111, (.getfield 349, 114, 0, .null, [], [(10, 48)])), (114, (.iconst 1, 115, 0, .int (1), [], [])), (115, (.isub, 116, 0, .null, [], [])), (116, (.putfield 349, 119, 0, .null, [], [(10, 48)])), (119, (.aload_n 0, 120, 0, .null, [], [])), (120, (.dup, 121, 0, .null, [], [])), (121, (.getfield 325, 124, 0, .null, [], [(10, 38)])), (124, (.iconst 1, 125, 0, .int (1), [], [])), (125, (.iadd, 126, 0, .null, [], [])), (126, (.putfield 325, 129, 0, .null, [], [(10, 38)])), (129, (.aload_n 0, 130, 0, .null, [], [])), (130, (.dup, 131, 0, .null, [], [])), (131, (.getfield 385, 134, 0, .null, [], [(10, 39)])), (134, (.aload_n 0, 135, 0, .null, [], [])), (135, (.getfield 100, 138, 0, .null, [], [(10, 50)])), (138, (.iload_n 2, 139, 0, .null, [], [])), (139, (.iaload, 140, 0, .null, [], [])), (140, (.iadd, 141, 0, .null, [], [])), (141, (.putfield 385, 144, 0, .null, [], [(10, 39)])), (144, (.iinc 1 1, 147, 0, .int (1), [], [])), (147, (.goto (-126), 150, 21, .null, [], [])), (150, (.return_, 151, 0, .null, [], []))]
noncomputable abbrev jX12_makesRows : List (Nat × sf_J sf_S) := [(56, sf_jI sf_layM [10] 2 gX12_wantsRow)]
abbrev wX12_makesRows_102 {ρ : Type} (k : Int32 → Int32 → sf_S → Option ρ) : sf_M ρ := fun L st σ => sf_lda L 0 fun a0 => sf_eq a0 0 (sf_ldi L 1 fun x1 => sf_ldi L 2 fun x2 => sf_nil st (k x1 x2 σ))
theorem wX12_makesRows_102_ok {ρ : Type} {Wt : Nat → sf_L → List Value → sf_S → Prop} {Post : ρ → Prop} (hm : sf_mono Wt) {k : Int32 → Int32 → sf_S → Option ρ} (h : ∀ (x1 : Int32) (x2 : Int32) (σ : sf_S) (u : ρ), k x1 x2 σ = some u → Post u → Wt 102 [(0, some (.ref 0)), (1, some (.int x1)), (2, some (.int x2))] [] σ) : sf_CK Wt Post 102 (wX12_makesRows_102 k) := by
  intro L st σ u hf hp
  unfold wX12_makesRows_102 at hf
  have hf0 := hf
  obtain ⟨a0, e0, hf1⟩ := sf_lda_inv hf0
  obtain ⟨rfl, hf2⟩ := sf_eq_inv hf1
  obtain ⟨x1, e1, hf3⟩ := sf_ldi_inv hf2
  obtain ⟨x2, e2, hf4⟩ := sf_ldi_inv hf3
  obtain ⟨rfl, hz⟩ := sf_nil_inv hf4
  exact hm _ [(0, some (.ref _)), (1, some (.int x1)), (2, some (.int x2))] _ _ _ (sf_le_ok (And.intro e0 (And.intro e1 (And.intro e2 trivial)))) (h _ _ _ _ hz hp)
abbrev wX12_makesRows_21 {ρ : Type} (k : Int32 → sf_S → Option ρ) : sf_M ρ := fun L st σ => sf_lda L 0 fun a0 => sf_eq a0 0 (sf_ldi L 1 fun x1 => sf_nil st (k x1 σ))
theorem wX12_makesRows_21_ok {ρ : Type} {Wt : Nat → sf_L → List Value → sf_S → Prop} {Post : ρ → Prop} (hm : sf_mono Wt) {k : Int32 → sf_S → Option ρ} (h : ∀ (x1 : Int32) (σ : sf_S) (u : ρ), k x1 σ = some u → Post u → Wt 21 [(0, some (.ref 0)), (1, some (.int x1))] [] σ) : sf_CK Wt Post 21 (wX12_makesRows_21 k) := by
  intro L st σ u hf hp
  unfold wX12_makesRows_21 at hf
  have hf0 := hf
  obtain ⟨a0, e0, hf1⟩ := sf_lda_inv hf0
  obtain ⟨rfl, hf2⟩ := sf_eq_inv hf1
  obtain ⟨x1, e1, hf3⟩ := sf_ldi_inv hf2
  obtain ⟨rfl, hz⟩ := sf_nil_inv hf3
  exact hm _ [(0, some (.ref _)), (1, some (.int x1))] _ _ _ (sf_le_ok (And.intro e0 (And.intro e1 trivial))) (h _ _ _ hz hp)
noncomputable def dX12_makesRows_102 (K21 : Int32 → sf_S → Option sf_S) (x1 : Int32) (x2 : Int32) (σ : sf_S) : Option sf_S :=
  if ¬ (σ 0 35) = 0 then
    K21 (x1 + (1 : Int32)) σ
  else
    let s1 := sf_up σ 0 48 ((σ 0 48) - (1 : Int32))
    let s2 := sf_up s1 0 38 ((s1 0 38) + (1 : Int32))
    if sf_in x2 40 then
      let s3 := sf_up s2 0 39 ((s2 0 39) + (s2 31 x2.toNatClampNeg))
      K21 (x1 + (1 : Int32)) s3
    else
      none
set_option maxRecDepth 100000 in
set_option maxHeartbeats 4000000 in
theorem rX12_makesRows_102 {Wt : Nat → sf_L → List Value → sf_S → Prop} {Post : sf_S → Prop} (hs : sf_Snd Wt sf_layM sf_hV jX12_makesRows tX12_makesRows Post) (hm : sf_mono Wt) {K21 : Int32 → sf_S → Option sf_S} (hK21 : sf_CK Wt Post 21 (wX12_makesRows_21 K21)) : sf_CK Wt Post 102 (wX12_makesRows_102 (dX12_makesRows_102 K21)) := by
  refine wX12_makesRows_102_ok hm ?_
  intro x1 x2 σ u h hp
  exact sf_run_ok hs (sf_sm_cons hK21 sf_sm_nil) 92 102 _ _ σ u h hp
noncomputable def dX12_makesRows_21 : Nat → Int32 → sf_S → Option sf_S
  | 0 => fun _ _ => none
  | n + 1 => fun x1 σ =>
    if (100000000 : Int32) ≤ x1 then
      some σ
    else
      if (σ 0 48) ≤ 0 then
        some σ
      else
        if ¬ (σ 0 35) = 0 then
          some σ
        else
          let v1 := ((σ 0 48) - (1 : Int32))
          if sf_in v1 41 then
            let v2 := (σ 29 v1.toNatClampNeg)
            (dX12_wantsRow v2 σ).bind fun u3 =>
            if ¬ (u3.2 0 35) = 0 then
              dX12_makesRows_102 (dX12_makesRows_21 n) x1 v2 u3.2
            else
              if u3.1 = (-1 : Int32) then
                dX12_makesRows_102 (dX12_makesRows_21 n) x1 v2 u3.2
              else
                if sf_in u3.1 40 then
                  let s4 := sf_up u3.2 32 u3.1.toNatClampNeg (0 : Int32)
                  let v5 := (s4 0 48)
                  if sf_in v5 41 then
                    let s6 := sf_up s4 29 v5.toNatClampNeg u3.1
                    let s7 := sf_up s6 0 48 ((s6 0 48) + (1 : Int32))
                    dX12_makesRows_21 n (x1 + (1 : Int32)) s7
                  else
                    none
                else
                  none
          else
            none
set_option maxRecDepth 100000 in
set_option maxHeartbeats 4000000 in
theorem rX12_makesRows_21 {Wt : Nat → sf_L → List Value → sf_S → Prop} {Post : sf_S → Prop} (hs : sf_Snd Wt sf_layM sf_hV jX12_makesRows tX12_makesRows Post) (hm : sf_mono Wt) : ∀ n : Nat, sf_CK Wt Post 21 (wX12_makesRows_21 (dX12_makesRows_21 n)) := by
  intro n
  induction n with
  | zero => exact wX12_makesRows_21_ok hm (fun x1 σ u h _ => by simp [dX12_makesRows_21] at h)
  | succ n ih =>
    refine wX12_makesRows_21_ok hm ?_
    intro x1 σ u h hp
    exact sf_run_ok hs (sf_sm_cons ih (sf_sm_cons (rX12_makesRows_102 hs hm ih) sf_sm_nil)) 92 21 _ _ σ u h hp
noncomputable def dX12_makesRows (σ : sf_S) : Option sf_S :=
  if sf_in (0 : Int32) 41 then
    let s1 := sf_up σ 29 ((0 : Int32)).toNatClampNeg (0 : Int32)
    let s2 := sf_up s1 0 48 (1 : Int32)
    if sf_in (0 : Int32) 40 then
      let s3 := sf_up s2 32 ((0 : Int32)).toNatClampNeg (0 : Int32)
      dX12_makesRows_21 sf_F (0 : Int32) s3
    else
      none
  else
    none
noncomputable abbrev gX12_makesRows (av : List Value) (σ : sf_S) : Option sf_S := match av with
  | [.ref q] => (match sf_rv [0] q with | true => dX12_makesRows σ | false => none)
  | _ => none
set_option maxRecDepth 100000 in
set_option maxHeartbeats 4000000 in
theorem rX12_makesRows {Wt : Nat → sf_L → List Value → sf_S → Prop} {Post : sf_S → Prop} (hs : sf_Snd Wt sf_layM sf_hV jX12_makesRows tX12_makesRows Post) (hm : sf_mono Wt) : ∀ av σ u, gX12_makesRows av σ = some u → Post u → (∀ ad, (lg_sl (av.map (sf_v ad))).length ≤ 4) ∧ Wt 0 (sf_ent 0 av) [] σ := by
  intro av σ u h hp
  unfold gX12_makesRows at h
  split at h
  · rename_i q
    split at h
    · rename_i hq
      have hq : q = 0 := by simpa using sf_rv_mem hq
      subst hq
      refine ⟨fun ad => Nat.le_of_ble_eq_true rfl, ?_⟩
      exact sf_run_ok hs (sf_sm_cons (rX12_makesRows_21 hs hm sf_F) sf_sm_nil) 92 0 _ _ σ u h hp
    · cases h
  · cases h
theorem kX12_makesRows (l : Launch) : sf_C l sf_layM yX12_makesRows cX12_makesRows 4 none (sf_rm 5 197) (fun av σ => (gX12_makesRows av σ).map sf_vV) :=
  sf_met (tab := tX12_makesRows) (J := jX12_makesRows) (fl := sf_fl12) (cl := sf_cl12) (by decide +kernel) ⟨rfl, rfl⟩ sf_RH_V (by decide +kernel) sf_fl12_ok sf_cl12_ok
    (sf_JO_cons (sf_je_V (n := 2) (cs := [10]) (tv := sf_vI) (kX12_wantsRow l) mwX12_wantsRow (by decide +kernel : decode cX12_makesRows 56 = .ok (.invokevirtual 382, 3)) wt_1587 wt_1589 wt_114 (by decide +kernel) (by decide) (by decide) (List.forall_mem_cons.mpr ⟨⟨_, _, rfl⟩, fun _ h => absurd h List.not_mem_nil⟩) (sf_RM_of (by omega) (by omega))) (sf_JO_nil))
    (fun Wt Post hs hm => rX12_makesRows hs hm)
-- ===== StreamFuserModel.runs(II)V =====
abbrev tX12_runs : List (Nat × sf_E) := [(0, (.aload_n 0, 1, 0, .null, [], [])), (1, (.iconst 0, 2, 0, .int (0), [], [])), (2, (.putfield 294, 5, 0, .null, [], [(10, 35)])), (5, (.aload_n 0, 6, 0, .null, [], [])), (6, (.iconst 0, 7, 0, .int (0), [], [])), (7, (.putfield 297, 10, 0, .null, [], [(10, 36)])), (10, (.aload_n 0, 11, 0, .null, [], [])), (11, (.iconst 0, 12, 0, .int (0), [], [])), (12, (.putfield 303, 15, 0, .null, [], [(10, 37)])), (15, (.aload_n 0, 16, 0, .null, [], [])), (16, (.iconst 0, 17, 0, .int (0), [], [])), (17, (.putfield 325, 20, 0, .null, [], [(10, 38)])), (20, (.aload_n 0, 21, 0, .null, [], [])), (21, (.iconst 0, 22, 0, .int (0), [], [])), (22, (.putfield 385, 25, 0, .null, [], [(10, 39)])), (25, (.aload_n 0, 26, 0, .null, [], [])), (26, (.iconst 0, 27, 0, .int (0), [], [])), (27, (.putfield 388, 30, 0, .null, [], [(10, 41)])), (30, (.aload_n 0, 31, 0, .null, [], [])), (31, (.iconst 0, 32, 0, .int (0), [], [])), (32, (.putfield 300, 35, 0, .null, [], [(10, 44)])), (35, (.aload_n 0, 36, 0, .null, [], [])), (36, (.iconst 0, 37, 0, .int (0), [], [])), (37, (.aload_n 0, 38, 0, .null, [], [])), (38, (.getfield 206, 41, 0, .null, [], [(10, 21)])), (41, (.invokevirtual 322, 44, 0, .null, [], [])), (44, (.iload_n 1, 45, 0, .null, [], [])), (45, (.iconst 2, 46, 0, .int (2), [], [])), (46, (.if_icmp .ne 61, 49, 107, .null, [], [])), (49, (.aload_n 0, 50, 0, .null, [], [])), (50, (.invokevirtual 391, 53, 0, .null, [], [])), (53, (.aload_n 0, 54, 0, .null, [], [])), (54, (.aload_n 0, 55, 0, .null, [], [])), (55, (.getfield 294, 58, 0, .null, [], [(10, 35)])), (58, (.ifCond .ne 16, 61, 74, .null, [], [])), (61, (.iload_n 2, 62, 0, .null, [], [])), (62, (.aload_n 0, 63, 0, .null, [], [])), (63, (.getfield 100, 66, 0, .null, [], [(10, 50)])), (66, (.iconst 0, 67, 0, .int (0), [], [])), (67, (.iaload, 68, 0, .null, [], [])), (68, (.invokestatic 260, 71, 0, .null, [], [])), (71, (.goto 4, 74, 75, .null, [], [])), (74, (.iconst 0, 75, 0, .int (0), [], [])), (75, (.putfield 388, 78, 0, .null, [], [(10, 41)])), (78, (.iconst 0, 79, 0, .int (0), [], [])), (79, (.istore_n 3, 80, 0, .null, [], [])), (80, (.iload_n 3, 81, 0, .null, [], [])), (81, (.aload_n 0, 82, 0, .null, [], [])), (82, (.getfield 388, 85, 0, .null, [], [(10, 41)])), (85, (.if_icmp .ge 21, 88, 106, .null, [], [])), (88, (.aload_n 0, 89, 0, .null, [], [])), (89, (.getfield 85, 92, 0, .null, [], [(10, 40)])), (92, (.iload_n 3, 93, 0, .null, [], [])), (93, (.aload_n 0, 94, 0, .null, [], [])), (94, (.getfield 97, 97, 0, .null, [], [(10, 49)])), (97, (.iload_n 3, 98, 0, .null, [], [])), (98, (.iaload, 99, 0, .null, [], [])), (99, (.iastore, 100, 0, .null, [], [])), (100, (.iinc 3 1, 103, 0, .int (1), [], [])), (103, (.goto (-23), 106, 80, .null, [], [])), (106, (.return_, 107, 0, .null, [], [])), (107, (.iconst 1, 108, 0, .int (1), [], [])), (108, (.istore_n 3, 109, 0, .null, [], [])), (109, (.iconst 0, 110, 0, .int (0), [], [])), (110, (.istore 4, 112, 0, .null, [], [])), (112, (.iload 4, 114, 0, .null, [], [])), (114, (.ldc_w 352, 117, 0, .int (100000000), [], [])), (117, (.if_icmp .ge 98, 120, 215, .null, [], [])), (120, (.iload_n 3, 121, 0, .null, [], [])), (121, (.ifCond .eq 94, 124, 215, .null, [], [])), (124, (.aload_n 0, 125, 0, .null, [], [])), (125, (.getfield 388, 128, 0, .null, [], [(10, 41)])), (128, (.iload_n 2, 129, 0, .null, [], [])), (129, (.if_icmp .ge 86, 132, 215, .null, [], [])), (132, (.iload_n 1, 133, 0, .null, [], [])), (133, (.iconst 1, 134, 0, .int (1), [], [])), (134, (.if_icmp .ne 10, 137, 144, .null, [], [])), (137, (.aload_n 0, 138, 0, .null, [], [])), (138, (.invokevirtual 394, 141, 0, .null, [], [])), (141, (.goto 15, 144, 156, .null, [], [])), (144, (.aload_n 0, 145, 0, .null, [], [])), (145, (.invokevirtual 397, 148, 0, .null, [], [])), (148, (.ifCond .eq 7, 151, 155, .null, [], [])), (151, (.iconst 0, 152, 0, .int (0), [], [])), (152, (.goto 4, 155, 156, .null, [], [])), (155, (.iconst 2, 156, 0, .int (2), [], [])), (156, (.istore 5, 158, 0, .null, [], [])), (158, (.aload_n 0, 159, 0, .null, [], [])), (159, (.getfield 294, 162, 0, .null, [], [(10, 35)])), (162, (.ifCond .ne 13, 165, 175, .null, [], [])), (165, (.iload 5, 167, 0, .null, [], [])), (167, (.iconst 2, 168, 0, .int (2), [], [])), (168, (.if_icmp .eq 7, 171, 175, .null, [], [])), (171, (.iconst 1, 172, 0, .int (1), [], [])), (172, (.goto 4, 175, 176, .null, [], [])), (175, (.iconst 0, 176, 0, .int (0), [], [])), (176, (.istore_n 3, 177, 0, .null, [], [])), (177, (.iload_n 3, 178, 0, .null, [], [])), (178, (.ifCond .eq 31, 181, 209, .null, [], [])), (181, (.iload 5, 183, 0, .null, [], [])), (183, (.ifCond .ne 26, 186, 209, .null, [], [])), (186, (.aload_n 0, 187, 0, .null, [], [])), (187, (.getfield 85, 190, 0, .null, [], [(10, 40)])), (190, (.aload_n 0, 191, 0, .null, [], [])), (191, (.getfield 388, 194, 0, .null, [], [(10, 41)])), (194, (.aload_n 0, 195, 0, .null, [], [])), (195, (.getfield 312, 198, 0, .null, [], [(10, 46)])), (198, (.iastore, 199, 0, .null, [], [])), (199, (.aload_n 0, 200, 0, .null, [], [])), (200, (.dup, 201, 0, .null, [], [])), (201, (.getfield 388, 204, 0, .null, [], [(10, 41)])), (204, (.iconst 1, 205, 0, .int (1), [], [])), (205, (.iadd, 206, 0, .null, [], [])), (206, (.putfield 388, 209, 0, .null, [], [(10, 41)])), (209, (.iinc 4 1, 212, 0, .int (1), [], [])), (212, (.goto (-100), 215, 112, .null, [], [])), (215, (.return_, 216, 0, .null, [], []))]
noncomputable abbrev jX12_runs : List (Nat × sf_J sf_S) := [(41, sf_jV sf_layM [10] 3 gX12_begins), (50, sf_jV sf_layM [10] 1 gX12_makesRows), (68, sf_jI sf_layM [] 2 gX12_lesser), (138, sf_jI sf_layM [10] 1 gX12_steps), (145, sf_jI sf_layM [10] 1 gX12_asks)]
abbrev wX12_runs_176 {ρ : Type} (k : Int32 → Int32 → Int32 → Int32 → Int32 → sf_S → Option ρ) : sf_M ρ := fun L st σ => sf_lda L 0 fun a0 => sf_eq a0 0 (sf_ldi L 1 fun x1 => sf_ldi L 2 fun x2 => sf_ldi L 4 fun x4 => sf_ldi L 5 fun x5 => sf_i1 st fun y0 st => sf_nil st (k x1 x2 x4 x5 y0 σ))
theorem wX12_runs_176_ok {ρ : Type} {Wt : Nat → sf_L → List Value → sf_S → Prop} {Post : ρ → Prop} (hm : sf_mono Wt) {k : Int32 → Int32 → Int32 → Int32 → Int32 → sf_S → Option ρ} (h : ∀ (x1 : Int32) (x2 : Int32) (x4 : Int32) (x5 : Int32) (y0 : Int32) (σ : sf_S) (u : ρ), k x1 x2 x4 x5 y0 σ = some u → Post u → Wt 176 [(0, some (.ref 0)), (1, some (.int x1)), (2, some (.int x2)), (4, some (.int x4)), (5, some (.int x5))] [.int y0] σ) : sf_CK Wt Post 176 (wX12_runs_176 k) := by
  intro L st σ u hf hp
  unfold wX12_runs_176 at hf
  have hf0 := hf
  obtain ⟨a0, e0, hf1⟩ := sf_lda_inv hf0
  obtain ⟨rfl, hf2⟩ := sf_eq_inv hf1
  obtain ⟨x1, e1, hf3⟩ := sf_ldi_inv hf2
  obtain ⟨x2, e2, hf4⟩ := sf_ldi_inv hf3
  obtain ⟨x4, e4, hf5⟩ := sf_ldi_inv hf4
  obtain ⟨x5, e5, hf6⟩ := sf_ldi_inv hf5
  obtain ⟨y0, st, rfl, hf7⟩ := sf_i1_inv hf6
  obtain ⟨rfl, hz⟩ := sf_nil_inv hf7
  exact hm _ [(0, some (.ref _)), (1, some (.int x1)), (2, some (.int x2)), (4, some (.int x4)), (5, some (.int x5))] _ _ _ (sf_le_ok (And.intro e0 (And.intro e1 (And.intro e2 (And.intro e4 (And.intro e5 trivial)))))) (h _ _ _ _ _ _ _ hz hp)
abbrev wX12_runs_156 {ρ : Type} (k : Int32 → Int32 → Int32 → Int32 → sf_S → Option ρ) : sf_M ρ := fun L st σ => sf_lda L 0 fun a0 => sf_eq a0 0 (sf_ldi L 1 fun x1 => sf_ldi L 2 fun x2 => sf_ldi L 4 fun x4 => sf_i1 st fun y0 st => sf_nil st (k x1 x2 x4 y0 σ))
theorem wX12_runs_156_ok {ρ : Type} {Wt : Nat → sf_L → List Value → sf_S → Prop} {Post : ρ → Prop} (hm : sf_mono Wt) {k : Int32 → Int32 → Int32 → Int32 → sf_S → Option ρ} (h : ∀ (x1 : Int32) (x2 : Int32) (x4 : Int32) (y0 : Int32) (σ : sf_S) (u : ρ), k x1 x2 x4 y0 σ = some u → Post u → Wt 156 [(0, some (.ref 0)), (1, some (.int x1)), (2, some (.int x2)), (4, some (.int x4))] [.int y0] σ) : sf_CK Wt Post 156 (wX12_runs_156 k) := by
  intro L st σ u hf hp
  unfold wX12_runs_156 at hf
  have hf0 := hf
  obtain ⟨a0, e0, hf1⟩ := sf_lda_inv hf0
  obtain ⟨rfl, hf2⟩ := sf_eq_inv hf1
  obtain ⟨x1, e1, hf3⟩ := sf_ldi_inv hf2
  obtain ⟨x2, e2, hf4⟩ := sf_ldi_inv hf3
  obtain ⟨x4, e4, hf5⟩ := sf_ldi_inv hf4
  obtain ⟨y0, st, rfl, hf6⟩ := sf_i1_inv hf5
  obtain ⟨rfl, hz⟩ := sf_nil_inv hf6
  exact hm _ [(0, some (.ref _)), (1, some (.int x1)), (2, some (.int x2)), (4, some (.int x4))] _ _ _ (sf_le_ok (And.intro e0 (And.intro e1 (And.intro e2 (And.intro e4 trivial))))) (h _ _ _ _ _ _ hz hp)
abbrev wX12_runs_112 {ρ : Type} (k : Int32 → Int32 → Int32 → Int32 → sf_S → Option ρ) : sf_M ρ := fun L st σ => sf_lda L 0 fun a0 => sf_eq a0 0 (sf_ldi L 1 fun x1 => sf_ldi L 2 fun x2 => sf_ldi L 3 fun x3 => sf_ldi L 4 fun x4 => sf_nil st (k x1 x2 x3 x4 σ))
theorem wX12_runs_112_ok {ρ : Type} {Wt : Nat → sf_L → List Value → sf_S → Prop} {Post : ρ → Prop} (hm : sf_mono Wt) {k : Int32 → Int32 → Int32 → Int32 → sf_S → Option ρ} (h : ∀ (x1 : Int32) (x2 : Int32) (x3 : Int32) (x4 : Int32) (σ : sf_S) (u : ρ), k x1 x2 x3 x4 σ = some u → Post u → Wt 112 [(0, some (.ref 0)), (1, some (.int x1)), (2, some (.int x2)), (3, some (.int x3)), (4, some (.int x4))] [] σ) : sf_CK Wt Post 112 (wX12_runs_112 k) := by
  intro L st σ u hf hp
  unfold wX12_runs_112 at hf
  have hf0 := hf
  obtain ⟨a0, e0, hf1⟩ := sf_lda_inv hf0
  obtain ⟨rfl, hf2⟩ := sf_eq_inv hf1
  obtain ⟨x1, e1, hf3⟩ := sf_ldi_inv hf2
  obtain ⟨x2, e2, hf4⟩ := sf_ldi_inv hf3
  obtain ⟨x3, e3, hf5⟩ := sf_ldi_inv hf4
  obtain ⟨x4, e4, hf6⟩ := sf_ldi_inv hf5
  obtain ⟨rfl, hz⟩ := sf_nil_inv hf6
  exact hm _ [(0, some (.ref _)), (1, some (.int x1)), (2, some (.int x2)), (3, some (.int x3)), (4, some (.int x4))] _ _ _ (sf_le_ok (And.intro e0 (And.intro e1 (And.intro e2 (And.intro e3 (And.intro e4 trivial)))))) (h _ _ _ _ _ _ hz hp)
abbrev wX12_runs_80 {ρ : Type} (k : Int32 → sf_S → Option ρ) : sf_M ρ := fun L st σ => sf_lda L 0 fun a0 => sf_eq a0 0 (sf_ldi L 3 fun x3 => sf_nil st (k x3 σ))
theorem wX12_runs_80_ok {ρ : Type} {Wt : Nat → sf_L → List Value → sf_S → Prop} {Post : ρ → Prop} (hm : sf_mono Wt) {k : Int32 → sf_S → Option ρ} (h : ∀ (x3 : Int32) (σ : sf_S) (u : ρ), k x3 σ = some u → Post u → Wt 80 [(0, some (.ref 0)), (3, some (.int x3))] [] σ) : sf_CK Wt Post 80 (wX12_runs_80 k) := by
  intro L st σ u hf hp
  unfold wX12_runs_80 at hf
  have hf0 := hf
  obtain ⟨a0, e0, hf1⟩ := sf_lda_inv hf0
  obtain ⟨rfl, hf2⟩ := sf_eq_inv hf1
  obtain ⟨x3, e3, hf3⟩ := sf_ldi_inv hf2
  obtain ⟨rfl, hz⟩ := sf_nil_inv hf3
  exact hm _ [(0, some (.ref _)), (3, some (.int x3))] _ _ _ (sf_le_ok (And.intro e0 (And.intro e3 trivial))) (h _ _ _ hz hp)
noncomputable def dX12_runs_176 (K112 : Int32 → Int32 → Int32 → Int32 → sf_S → Option sf_S) (x1 : Int32) (x2 : Int32) (x4 : Int32) (x5 : Int32) (y0 : Int32) (σ : sf_S) : Option sf_S :=
  if y0 = 0 then
    K112 x1 x2 y0 (x4 + (1 : Int32)) σ
  else
    if ¬ x5 = 0 then
      K112 x1 x2 y0 (x4 + (1 : Int32)) σ
    else
      let v1 := (σ 0 41)
      if sf_in v1 40 then
        let s2 := sf_up σ 26 v1.toNatClampNeg (σ 0 46)
        let s3 := sf_up s2 0 41 ((s2 0 41) + (1 : Int32))
        K112 x1 x2 y0 (x4 + (1 : Int32)) s3
      else
        none
set_option maxRecDepth 100000 in
set_option maxHeartbeats 4000000 in
theorem rX12_runs_176 {Wt : Nat → sf_L → List Value → sf_S → Prop} {Post : sf_S → Prop} (hs : sf_Snd Wt sf_layM sf_hV jX12_runs tX12_runs Post) (hm : sf_mono Wt) {K112 : Int32 → Int32 → Int32 → Int32 → sf_S → Option sf_S} (hK112 : sf_CK Wt Post 112 (wX12_runs_112 K112)) : sf_CK Wt Post 176 (wX12_runs_176 (dX12_runs_176 K112)) := by
  refine wX12_runs_176_ok hm ?_
  intro x1 x2 x4 x5 y0 σ u h hp
  exact sf_run_ok hs (sf_sm_cons hK112 sf_sm_nil) 122 176 _ _ σ u h hp
noncomputable def dX12_runs_156 (K112 : Int32 → Int32 → Int32 → Int32 → sf_S → Option sf_S) (x1 : Int32) (x2 : Int32) (x4 : Int32) (y0 : Int32) (σ : sf_S) : Option sf_S :=
  if ¬ (σ 0 35) = 0 then
    dX12_runs_176 K112 x1 x2 x4 y0 (0 : Int32) σ
  else
    if y0 = (2 : Int32) then
      dX12_runs_176 K112 x1 x2 x4 y0 (0 : Int32) σ
    else
      dX12_runs_176 K112 x1 x2 x4 y0 (1 : Int32) σ
set_option maxRecDepth 100000 in
set_option maxHeartbeats 4000000 in
theorem rX12_runs_156 {Wt : Nat → sf_L → List Value → sf_S → Prop} {Post : sf_S → Prop} (hs : sf_Snd Wt sf_layM sf_hV jX12_runs tX12_runs Post) (hm : sf_mono Wt) {K112 : Int32 → Int32 → Int32 → Int32 → sf_S → Option sf_S} (hK112 : sf_CK Wt Post 112 (wX12_runs_112 K112)) : sf_CK Wt Post 156 (wX12_runs_156 (dX12_runs_156 K112)) := by
  refine wX12_runs_156_ok hm ?_
  intro x1 x2 x4 y0 σ u h hp
  exact sf_run_ok hs (sf_sm_cons (rX12_runs_176 hs hm hK112) sf_sm_nil) 122 156 _ _ σ u h hp
noncomputable def dX12_runs_112 : Nat → Int32 → Int32 → Int32 → Int32 → sf_S → Option sf_S
  | 0 => fun _ _ _ _ _ => none
  | n + 1 => fun x1 x2 x3 x4 σ =>
    if (100000000 : Int32) ≤ x4 then
      some σ
    else
      if x3 = 0 then
        some σ
      else
        if x2 ≤ (σ 0 41) then
          some σ
        else
          if ¬ x1 = (1 : Int32) then
            (dX12_asks σ).bind fun u1 =>
            if u1.1 = 0 then
              dX12_runs_156 (dX12_runs_112 n) x1 x2 x4 (2 : Int32) u1.2
            else
              dX12_runs_156 (dX12_runs_112 n) x1 x2 x4 (0 : Int32) u1.2
          else
            (dX12_steps σ).bind fun u2 =>
            dX12_runs_156 (dX12_runs_112 n) x1 x2 x4 u2.1 u2.2
set_option maxRecDepth 100000 in
set_option maxHeartbeats 4000000 in
theorem rX12_runs_112 {Wt : Nat → sf_L → List Value → sf_S → Prop} {Post : sf_S → Prop} (hs : sf_Snd Wt sf_layM sf_hV jX12_runs tX12_runs Post) (hm : sf_mono Wt) : ∀ n : Nat, sf_CK Wt Post 112 (wX12_runs_112 (dX12_runs_112 n)) := by
  intro n
  induction n with
  | zero => exact wX12_runs_112_ok hm (fun x1 x2 x3 x4 σ u h _ => by simp [dX12_runs_112] at h)
  | succ n ih =>
    refine wX12_runs_112_ok hm ?_
    intro x1 x2 x3 x4 σ u h hp
    exact sf_run_ok hs (sf_sm_cons (rX12_runs_156 hs hm ih) sf_sm_nil) 122 112 _ _ σ u h hp
noncomputable def dX12_runs_80 : Nat → Int32 → sf_S → Option sf_S
  | 0 => fun _ _ => none
  | n + 1 => fun x3 σ =>
    if (σ 0 41) ≤ x3 then
      some σ
    else
      if sf_in x3 2400 then
        if sf_in x3 40 then
          let s1 := sf_up σ 26 x3.toNatClampNeg (σ 30 x3.toNatClampNeg)
          dX12_runs_80 n (x3 + (1 : Int32)) s1
        else
          none
      else
        none
set_option maxRecDepth 100000 in
set_option maxHeartbeats 4000000 in
theorem rX12_runs_80 {Wt : Nat → sf_L → List Value → sf_S → Prop} {Post : sf_S → Prop} (hs : sf_Snd Wt sf_layM sf_hV jX12_runs tX12_runs Post) (hm : sf_mono Wt) : ∀ n : Nat, sf_CK Wt Post 80 (wX12_runs_80 (dX12_runs_80 n)) := by
  intro n
  induction n with
  | zero => exact wX12_runs_80_ok hm (fun x3 σ u h _ => by simp [dX12_runs_80] at h)
  | succ n ih =>
    refine wX12_runs_80_ok hm ?_
    intro x3 σ u h hp
    exact sf_run_ok hs (sf_sm_cons ih sf_sm_nil) 122 80 _ _ σ u h hp
noncomputable def dX12_runs (x1 : Int32) (x2 : Int32) (σ : sf_S) : Option sf_S :=
  let s1 := sf_up σ 0 35 (0 : Int32)
  let s2 := sf_up s1 0 36 (0 : Int32)
  let s3 := sf_up s2 0 37 (0 : Int32)
  let s4 := sf_up s3 0 38 (0 : Int32)
  let s5 := sf_up s4 0 39 (0 : Int32)
  let s6 := sf_up s5 0 41 (0 : Int32)
  let s7 := sf_up s6 0 44 (0 : Int32)
  (dX12_begins (0 : Int32) (s7 0 21) s7).bind fun u8 =>
  if ¬ x1 = (2 : Int32) then
    dX12_runs_112 sf_F x1 x2 (1 : Int32) (0 : Int32) u8
  else
    (dX12_makesRows u8).bind fun u9 =>
    if ¬ (u9 0 35) = 0 then
      let s10 := sf_up u9 0 41 (0 : Int32)
      dX12_runs_80 sf_F (0 : Int32) s10
    else
      if sf_in (0 : Int32) 40 then
        (dX12_lesser x2 (u9 31 ((0 : Int32)).toNatClampNeg) u9).bind fun u11 =>
        let s12 := sf_up u11.2 0 41 u11.1
        dX12_runs_80 sf_F (0 : Int32) s12
      else
        none
noncomputable abbrev gX12_runs (av : List Value) (σ : sf_S) : Option sf_S := match av with
  | [.ref q, .int x1, .int x2] => (match sf_rv [0] q with | true => dX12_runs x1 x2 σ | false => none)
  | _ => none
set_option maxRecDepth 100000 in
set_option maxHeartbeats 4000000 in
theorem rX12_runs {Wt : Nat → sf_L → List Value → sf_S → Prop} {Post : sf_S → Prop} (hs : sf_Snd Wt sf_layM sf_hV jX12_runs tX12_runs Post) (hm : sf_mono Wt) : ∀ av σ u, gX12_runs av σ = some u → Post u → (∀ ad, (lg_sl (av.map (sf_v ad))).length ≤ 6) ∧ Wt 0 (sf_ent 0 av) [] σ := by
  intro av σ u h hp
  unfold gX12_runs at h
  split at h
  · rename_i q x1 x2
    split at h
    · rename_i hq
      have hq : q = 0 := by simpa using sf_rv_mem hq
      subst hq
      refine ⟨fun ad => Nat.le_of_ble_eq_true rfl, ?_⟩
      exact sf_run_ok hs (sf_sm_cons (rX12_runs_80 hs hm sf_F) (sf_sm_cons (rX12_runs_112 hs hm sf_F) sf_sm_nil)) 122 0 _ _ σ u h hp
    · cases h
  · cases h
theorem kX12_runs (l : Launch) : sf_C l sf_layM yX12_runs cX12_runs 6 none (sf_rm 6 220) (fun av σ => (gX12_runs av σ).map sf_vV) :=
  sf_met (tab := tX12_runs) (J := jX12_runs) (fl := sf_fl12) (cl := sf_cl12) (by decide +kernel) ⟨rfl, rfl⟩ sf_RH_V (by decide +kernel) sf_fl12_ok sf_cl12_ok
    (sf_JO_cons (sf_je_V (n := 3) (cs := [10]) (tv := sf_vV) (kX12_begins l) mwX12_begins (by decide +kernel : decode cX12_runs 41 = .ok (.invokevirtual 322, 3)) wt_1578 wt_1580 wt_112 (by decide +kernel) (by decide) (by decide) (List.forall_mem_cons.mpr ⟨⟨_, _, rfl⟩, fun _ h => absurd h List.not_mem_nil⟩) (sf_RM_of (by omega) (by omega))) (sf_JO_cons (sf_je_V (n := 1) (cs := [10]) (tv := sf_vV) (kX12_makesRows l) mwX12_makesRows (by decide +kernel : decode cX12_runs 50 = .ok (.invokevirtual 391, 3)) wt_1582 wt_1584 wt_113 (by decide +kernel) (by decide) (by decide) (List.forall_mem_cons.mpr ⟨⟨_, _, rfl⟩, fun _ h => absurd h List.not_mem_nil⟩) (sf_RM_of (by omega) (by omega))) (sf_JO_cons (sf_je_S (n := 2) (tv := sf_vI) (kX12_lesser l) mwX12_lesser (by decide +kernel : decode cX12_runs 68 = .ok (.invokestatic 260, 3)) wt_1538 wt_1539 (by decide +kernel) (sf_RM_of (by omega) (by omega))) (sf_JO_cons (sf_je_V (n := 1) (cs := [10]) (tv := sf_vI) (kX12_steps l) mwX12_steps (by decide +kernel : decode cX12_runs 138 = .ok (.invokevirtual 394, 3)) wt_1636 wt_1638 wt_126 (by decide +kernel) (by decide) (by decide) (List.forall_mem_cons.mpr ⟨⟨_, _, rfl⟩, fun _ h => absurd h List.not_mem_nil⟩) (sf_RM_of (by omega) (by omega))) (sf_JO_cons (sf_je_V (n := 1) (cs := [10]) (tv := sf_vI) (kX12_asks l) mwX12_asks (by decide +kernel : decode cX12_runs 145 = .ok (.invokevirtual 397, 3)) wt_1656 wt_1658 wt_131 (by decide +kernel) (by decide) (by decide) (List.forall_mem_cons.mpr ⟨⟨_, _, rfl⟩, fun _ h => absurd h List.not_mem_nil⟩) (sf_RM_of (by omega) (by omega))) (sf_JO_nil))))))
    (fun Wt Post hs hm => rX12_runs hs hm)
-- ===== StreamFuserModel.hasEndless()Z =====
abbrev tX12_hasEndless : List (Nat × sf_E) := [(0, (.iconst 0, 1, 0, .int (0), [], [])), (1, (.istore_n 1, 2, 0, .null, [], [])), (2, (.iload_n 1, 3, 0, .null, [], [])), (3, (.aload_n 0, 4, 0, .null, [], [])), (4, (.getfield 206, 7, 0, .null, [], [(10, 21)])), (7, (.if_icmp .ge 22, 10, 29, .null, [], [])), (10, (.aload_n 0, 11, 0, .null, [], [])), (11, (.getfield 40, 14, 0, .null, [], [(10, 17)])), (14, (.iload_n 1, 15, 0, .null, [], [])), (15, (.iaload, 16, 0, .null, [], [])), (16, (.bipush 105, 18, 0, .int (105), [], [])), (18, (.if_icmp .ne 5, 21, 23, .null, [], [])), (21, (.iconst 1, 22, 0, .int (1), [], [])), (22, (.ireturn, 23, 0, .null, [], [])), (23, (.iinc 1 1, 26, 0, .int (1), [], [])), (26, (.goto (-24), 29, 2, .null, [], [])), (29, (.iconst 0, 30, 0, .int (0), [], [])), (30, (.ireturn, 31, 0, .null, [], []))]
noncomputable abbrev jX12_hasEndless : List (Nat × sf_J (Int32 × sf_S)) := []
abbrev wX12_hasEndless_2 {ρ : Type} (k : Int32 → sf_S → Option ρ) : sf_M ρ := fun L st σ => sf_lda L 0 fun a0 => sf_eq a0 0 (sf_ldi L 1 fun x1 => sf_nil st (k x1 σ))
theorem wX12_hasEndless_2_ok {ρ : Type} {Wt : Nat → sf_L → List Value → sf_S → Prop} {Post : ρ → Prop} (hm : sf_mono Wt) {k : Int32 → sf_S → Option ρ} (h : ∀ (x1 : Int32) (σ : sf_S) (u : ρ), k x1 σ = some u → Post u → Wt 2 [(0, some (.ref 0)), (1, some (.int x1))] [] σ) : sf_CK Wt Post 2 (wX12_hasEndless_2 k) := by
  intro L st σ u hf hp
  unfold wX12_hasEndless_2 at hf
  have hf0 := hf
  obtain ⟨a0, e0, hf1⟩ := sf_lda_inv hf0
  obtain ⟨rfl, hf2⟩ := sf_eq_inv hf1
  obtain ⟨x1, e1, hf3⟩ := sf_ldi_inv hf2
  obtain ⟨rfl, hz⟩ := sf_nil_inv hf3
  exact hm _ [(0, some (.ref _)), (1, some (.int x1))] _ _ _ (sf_le_ok (And.intro e0 (And.intro e1 trivial))) (h _ _ _ hz hp)
noncomputable def dX12_hasEndless_2 : Nat → Int32 → sf_S → Option (Int32 × sf_S)
  | 0 => fun _ _ => none
  | n + 1 => fun x1 σ =>
    if (σ 0 21) ≤ x1 then
      some ((0 : Int32), σ)
    else
      if sf_in x1 40 then
        if ¬ (σ 11 x1.toNatClampNeg) = (105 : Int32) then
          dX12_hasEndless_2 n (x1 + (1 : Int32)) σ
        else
          some ((1 : Int32), σ)
      else
        none
set_option maxRecDepth 100000 in
set_option maxHeartbeats 4000000 in
theorem rX12_hasEndless_2 {Wt : Nat → sf_L → List Value → sf_S → Prop} {Post : (Int32 × sf_S) → Prop} (hs : sf_Snd Wt sf_layM sf_hZ jX12_hasEndless tX12_hasEndless Post) (hm : sf_mono Wt) : ∀ n : Nat, sf_CK Wt Post 2 (wX12_hasEndless_2 (dX12_hasEndless_2 n)) := by
  intro n
  induction n with
  | zero => exact wX12_hasEndless_2_ok hm (fun x1 σ u h _ => by simp [dX12_hasEndless_2] at h)
  | succ n ih =>
    refine wX12_hasEndless_2_ok hm ?_
    intro x1 σ u h hp
    exact sf_run_ok hs (sf_sm_cons ih sf_sm_nil) 23 2 _ _ σ u h hp
noncomputable def dX12_hasEndless (σ : sf_S) : Option (Int32 × sf_S) :=
  dX12_hasEndless_2 sf_F (0 : Int32) σ
noncomputable abbrev gX12_hasEndless (av : List Value) (σ : sf_S) : Option (Int32 × sf_S) := match av with
  | [.ref q] => (match sf_rv [0] q with | true => dX12_hasEndless σ | false => none)
  | _ => none
set_option maxRecDepth 100000 in
set_option maxHeartbeats 4000000 in
theorem rX12_hasEndless {Wt : Nat → sf_L → List Value → sf_S → Prop} {Post : (Int32 × sf_S) → Prop} (hs : sf_Snd Wt sf_layM sf_hZ jX12_hasEndless tX12_hasEndless Post) (hm : sf_mono Wt) : ∀ av σ u, gX12_hasEndless av σ = some u → Post u → (∀ ad, (lg_sl (av.map (sf_v ad))).length ≤ 2) ∧ Wt 0 (sf_ent 0 av) [] σ := by
  intro av σ u h hp
  unfold gX12_hasEndless at h
  split at h
  · rename_i q
    split at h
    · rename_i hq
      have hq : q = 0 := by simpa using sf_rv_mem hq
      subst hq
      refine ⟨fun ad => Nat.le_of_ble_eq_true rfl, ?_⟩
      exact sf_run_ok hs (sf_sm_cons (rX12_hasEndless_2 hs hm sf_F) sf_sm_nil) 23 0 _ _ σ u h hp
    · cases h
  · cases h
theorem kX12_hasEndless (l : Launch) : sf_C l sf_layM yX12_hasEndless cX12_hasEndless 2 (some .boolean) (sf_rm 1 100) (fun av σ => (gX12_hasEndless av σ).map sf_vI) :=
  sf_met (tab := tX12_hasEndless) (J := jX12_hasEndless) (fl := sf_fl12) (cl := sf_cl12) (by decide +kernel) ⟨rfl, rfl⟩ sf_RH_Z (by decide +kernel) sf_fl12_ok sf_cl12_ok
    (sf_JO_nil)
    (fun Wt Post hs hm => rX12_hasEndless hs hm)
-- ===== StreamFuserModel.run(II)I =====
abbrev tX12_run : List (Nat × sf_E) := [(0, (.iload_n 1, 1, 0, .null, [], [])), (1, (.i2l, 2, 0, .null, [], [])), (2, (.lconst 0, 3, 0, .long 0, [], [])), (3, (.ldc2_w 140, 6, 0, .long (2), [], [])), (6, (.invokestatic 132, 9, 0, .null, [], [])), (9, (.ifCond .eq 15, 12, 24, .null, [], [])), (12, (.iload_n 2, 13, 0, .null, [], [])), (13, (.i2l, 14, 0, .null, [], [])), (14, (.lconst 0, 15, 0, .long 0, [], [])), (15, (.ldc2_w 400, 18, 0, .long (40), [], [])), (18, (.invokestatic 132, 21, 0, .null, [], [])), (21, (.ifCond .ne 6, 24, 27, .null, [], [])), (24, (.bipush (-2), 26, 0, .int (-2), [], [])), (26, (.ireturn, 27, 0, .null, [], [])), (27, (.aload_n 0, 28, 0, .null, [], [])), (28, (.getfield 206, 31, 0, .null, [], [(10, 21)])), (31, (.ifCond .eq 15, 34, 46, .null, [], [])), (34, (.iload_n 1, 35, 0, .null, [], [])), (35, (.iconst 2, 36, 0, .int (2), [], [])), (36, (.if_icmp .ne 13, 39, 49, .null, [], [])), (39, (.aload_n 0, 40, 0, .null, [], [])), (40, (.invokevirtual 402, 43, 0, .null, [], [])), (43, (.ifCond .eq 6, 46, 49, .null, [], [])), (46, (.bipush (-3), 48, 0, .int (-3), [], [])), (48, (.ireturn, 49, 0, .null, [], [])), (49, (.aload_n 0, 50, 0, .null, [], [])), (50, (.iload_n 1, 51, 0, .null, [], [])), (51, (.iload_n 2, 52, 0, .null, [], [])), (52, (.invokevirtual 405, 55, 0, .null, [], [])), (55, (.aload_n 0, 56, 0, .null, [], [])), (56, (.getfield 109, 59, 0, .null, [], [(10, 53)])), (59, (.iconst 0, 60, 0, .int (0), [], [])), (60, (.aload_n 0, 61, 0, .null, [], [])), (61, (.getfield 294, 64, 0, .null, [], [(10, 35)])), (64, (.iastore, 65, 0, .null, [], [])), (65, (.aload_n 0, 66, 0, .null, [], [])), (66, (.getfield 109, 69, 0, .null, [], [(10, 53)])), (69, (.iconst 1, 70, 0, .int (1), [], [])), (70, (.aload_n 0, 71, 0, .null, [], [])), (71, (.getfield 297, 74, 0, .null, [], [(10, 36)])), (74, (.iastore, 75, 0, .null, [], [])), (75, (.aload_n 0, 76, 0, .null, [], [])), (76, (.getfield 109, 79, 0, .null, [], [(10, 53)])), (79, (.iconst 2, 80, 0, .int (2), [], [])), (80, (.aload_n 0, 81, 0, .null, [], [])), (81, (.getfield 303, 84, 0, .null, [], [(10, 37)])), (84, (.iastore, 85, 0, .null, [], [])), (85, (.aload_n 0, 86, 0, .null, [], [])), (86, (.getfield 109, 89, 0, .null, [], [(10, 53)])), (89, (.iconst 3, 90, 0, .int (3), [], [])), (90, (.aload_n 0, 91, 0, .null, [], [])), (91, (.getfield 325, 94, 0, .null, [], [(10, 38)])), (94, (.iastore, 95, 0, .null, [], [])), (95, (.aload_n 0, 96, 0, .null, [], [])), (96, (.getfield 109, 99, 0, .null, [], [(10, 53)])), (99, (.iconst 4, 100, 0, .int (4), [], [])), (100, (.aload_n 0, 101, 0, .null, [], [])), (101, (.getfield 385, 104, 0, .null, [], [(10, 39)])), (104, (.iastore, 105, 0, .null, [], [])), (105, (.aload_n 0, 106, 0, .null, [], [])), (106, (.getfield 109, 109, 0, .null, [], [(10, 53)])), (109, (.iconst 5, 110, 0, .int (5), [], [])), (110, (.aload_n 0, 111, 0, .null, [], [])), (111, (.getfield 300, 114, 0, .null, [], [(10, 44)])), (114, (.iastore, 115, 0, .null, [], [])), (115, (.aload_n 0, 116, 0, .null, [], [])), (116, (.aload_n 0, 117, 0, .null, [], [])), (117, (.getfield 388, 120, 0, .null, [], [(10, 41)])), (120, (.putfield 408, 123, 0, .null, [], [(10, 55)])), (123, (.iconst 0, 124, 0, .int (0), [], [])), (124, (.istore_n 3, 125, 0, .null, [], [])), (125, (.iload_n 3, 126, 0, .null, [], [])), (126, (.bipush 40, 128, 0, .int (40), [], [])), (128, (.if_icmp .ge 45, 131, 173, .null, [], [])), (131, (.aload_n 0, 132, 0, .null, [], [])), (132, (.getfield 112, 135, 0, .null, [], [(10, 54)])), (135, (.iload_n 3, 136, 0, .null, [], [])), (136, (.aload_n 0, 137, 0, .null, [], [])), (137, (.getfield 85, 140, 0, .null, [], [(10, 40)])), (140, (.iload_n 3, 141, 0, .null, [], [])), (141, (.iaload, 142, 0, .null, [], [])), (142, (.iastore, 143, 0, .null, [], [])), (143, (.aload_n 0, 144, 0, .null, [], [])), (144, (.getfield 115, 147, 0, .null, [], [(10, 56)])), (147, (.iload_n 3, 148, 0, .null, [], [])), (148, (.aload_n 0, 149, 0, .null, [], [])), (149, (.getfield 88, 152, 0, .null, [], [(10, 42)])), (152, (.iload_n 3, 153, 0, .null, [], [])), (153, (.iaload, 154, 0, .null, [], [])), (154, (.iastore, 155, 0, .null, [], [])), (155, (.aload_n 0, 156, 0, .null, [], [])), (156, (.getfield 118, 159, 0, .null, [], [(10, 57)])), (159, (.iload_n 3, 160, 0, .null, [], [])), (160, (.aload_n 0, 161, 0, .null, [], [])), (161, (.getfield 91, 164, 0, .null, [], [(10, 43)])), (164, (.iload_n 3, 165, 0, .null, [], [])), (165, (.iaload, 166, 0, .null, [], [])), (166, (.iastore, 167, 0, .null, [], [])), (167, (.iinc 3 1, 170, 0, .int (1), [], [])), (170, (.goto (-45), 173, 125, .null, [], [])), (173, (.aload_n 0, 174, 0, .null, [], [])), (174, (.getfield 388, 177, 0, .null, [], [(10, 41)])), (177, (.ireturn, 178, 0, .null, [], []))]
noncomputable abbrev jX12_run : List (Nat × sf_J (Int32 × sf_S)) := [(6, sf_jI sf_layM [] 3 gX12_in), (18, sf_jI sf_layM [] 3 gX12_in), (40, sf_jI sf_layM [10] 1 gX12_hasEndless), (52, sf_jV sf_layM [10] 3 gX12_runs)]
abbrev wX12_run_125 {ρ : Type} (k : Int32 → sf_S → Option ρ) : sf_M ρ := fun L st σ => sf_lda L 0 fun a0 => sf_eq a0 0 (sf_ldi L 3 fun x3 => sf_nil st (k x3 σ))
theorem wX12_run_125_ok {ρ : Type} {Wt : Nat → sf_L → List Value → sf_S → Prop} {Post : ρ → Prop} (hm : sf_mono Wt) {k : Int32 → sf_S → Option ρ} (h : ∀ (x3 : Int32) (σ : sf_S) (u : ρ), k x3 σ = some u → Post u → Wt 125 [(0, some (.ref 0)), (3, some (.int x3))] [] σ) : sf_CK Wt Post 125 (wX12_run_125 k) := by
  intro L st σ u hf hp
  unfold wX12_run_125 at hf
  have hf0 := hf
  obtain ⟨a0, e0, hf1⟩ := sf_lda_inv hf0
  obtain ⟨rfl, hf2⟩ := sf_eq_inv hf1
  obtain ⟨x3, e3, hf3⟩ := sf_ldi_inv hf2
  obtain ⟨rfl, hz⟩ := sf_nil_inv hf3
  exact hm _ [(0, some (.ref _)), (3, some (.int x3))] _ _ _ (sf_le_ok (And.intro e0 (And.intro e3 trivial))) (h _ _ _ hz hp)
abbrev wX12_run_49 {ρ : Type} (k : Int32 → Int32 → sf_S → Option ρ) : sf_M ρ := fun L st σ => sf_lda L 0 fun a0 => sf_eq a0 0 (sf_ldi L 1 fun x1 => sf_ldi L 2 fun x2 => sf_nil st (k x1 x2 σ))
theorem wX12_run_49_ok {ρ : Type} {Wt : Nat → sf_L → List Value → sf_S → Prop} {Post : ρ → Prop} (hm : sf_mono Wt) {k : Int32 → Int32 → sf_S → Option ρ} (h : ∀ (x1 : Int32) (x2 : Int32) (σ : sf_S) (u : ρ), k x1 x2 σ = some u → Post u → Wt 49 [(0, some (.ref 0)), (1, some (.int x1)), (2, some (.int x2))] [] σ) : sf_CK Wt Post 49 (wX12_run_49 k) := by
  intro L st σ u hf hp
  unfold wX12_run_49 at hf
  have hf0 := hf
  obtain ⟨a0, e0, hf1⟩ := sf_lda_inv hf0
  obtain ⟨rfl, hf2⟩ := sf_eq_inv hf1
  obtain ⟨x1, e1, hf3⟩ := sf_ldi_inv hf2
  obtain ⟨x2, e2, hf4⟩ := sf_ldi_inv hf3
  obtain ⟨rfl, hz⟩ := sf_nil_inv hf4
  exact hm _ [(0, some (.ref _)), (1, some (.int x1)), (2, some (.int x2))] _ _ _ (sf_le_ok (And.intro e0 (And.intro e1 (And.intro e2 trivial)))) (h _ _ _ _ hz hp)
noncomputable def dX12_run_125 : Nat → Int32 → sf_S → Option (Int32 × sf_S)
  | 0 => fun _ _ => none
  | n + 1 => fun x3 σ =>
    if (40 : Int32) ≤ x3 then
      some ((σ 0 41), σ)
    else
      if sf_in x3 40 then
        if sf_in x3 40 then
          let s1 := sf_up σ 35 x3.toNatClampNeg (σ 26 x3.toNatClampNeg)
          if sf_in x3 40 then
            if sf_in x3 40 then
              let s2 := sf_up s1 36 x3.toNatClampNeg (s1 27 x3.toNatClampNeg)
              if sf_in x3 40 then
                if sf_in x3 40 then
                  let s3 := sf_up s2 37 x3.toNatClampNeg (s2 28 x3.toNatClampNeg)
                  dX12_run_125 n (x3 + (1 : Int32)) s3
                else
                  none
              else
                none
            else
              none
          else
            none
        else
          none
      else
        none
set_option maxRecDepth 100000 in
set_option maxHeartbeats 4000000 in
theorem rX12_run_125 {Wt : Nat → sf_L → List Value → sf_S → Prop} {Post : (Int32 × sf_S) → Prop} (hs : sf_Snd Wt sf_layM sf_hI jX12_run tX12_run Post) (hm : sf_mono Wt) : ∀ n : Nat, sf_CK Wt Post 125 (wX12_run_125 (dX12_run_125 n)) := by
  intro n
  induction n with
  | zero => exact wX12_run_125_ok hm (fun x3 σ u h _ => by simp [dX12_run_125] at h)
  | succ n ih =>
    refine wX12_run_125_ok hm ?_
    intro x3 σ u h hp
    exact sf_run_ok hs (sf_sm_cons ih sf_sm_nil) 108 125 _ _ σ u h hp
noncomputable def dX12_run_49 (x1 : Int32) (x2 : Int32) (σ : sf_S) : Option (Int32 × sf_S) :=
  (dX12_runs x1 x2 σ).bind fun u1 =>
  if sf_in (0 : Int32) 6 then
    let s2 := sf_up u1 34 ((0 : Int32)).toNatClampNeg (u1 0 35)
    if sf_in (1 : Int32) 6 then
      let s3 := sf_up s2 34 ((1 : Int32)).toNatClampNeg (s2 0 36)
      if sf_in (2 : Int32) 6 then
        let s4 := sf_up s3 34 ((2 : Int32)).toNatClampNeg (s3 0 37)
        if sf_in (3 : Int32) 6 then
          let s5 := sf_up s4 34 ((3 : Int32)).toNatClampNeg (s4 0 38)
          if sf_in (4 : Int32) 6 then
            let s6 := sf_up s5 34 ((4 : Int32)).toNatClampNeg (s5 0 39)
            if sf_in (5 : Int32) 6 then
              let s7 := sf_up s6 34 ((5 : Int32)).toNatClampNeg (s6 0 44)
              let s8 := sf_up s7 0 55 (s7 0 41)
              dX12_run_125 sf_F (0 : Int32) s8
            else
              none
          else
            none
        else
          none
      else
        none
    else
      none
  else
    none
set_option maxRecDepth 100000 in
set_option maxHeartbeats 4000000 in
theorem rX12_run_49 {Wt : Nat → sf_L → List Value → sf_S → Prop} {Post : (Int32 × sf_S) → Prop} (hs : sf_Snd Wt sf_layM sf_hI jX12_run tX12_run Post) (hm : sf_mono Wt) : sf_CK Wt Post 49 (wX12_run_49 (dX12_run_49)) := by
  refine wX12_run_49_ok hm ?_
  intro x1 x2 σ u h hp
  exact sf_run_ok hs (sf_sm_cons (rX12_run_125 hs hm sf_F) sf_sm_nil) 108 49 _ _ σ u h hp
noncomputable def dX12_run (x1 : Int32) (x2 : Int32) (σ : sf_S) : Option (Int32 × sf_S) :=
  (dX12_in x1.toInt64 (0 : Int64) (2 : Int64) σ).bind fun u1 =>
  if u1.1 = 0 then
    some ((-2 : Int32), u1.2)
  else
    (dX12_in x2.toInt64 (0 : Int64) (40 : Int64) u1.2).bind fun u2 =>
    if ¬ u2.1 = 0 then
      if (u2.2 0 21) = 0 then
        some ((-3 : Int32), u2.2)
      else
        if ¬ x1 = (2 : Int32) then
          dX12_run_49 x1 x2 u2.2
        else
          (dX12_hasEndless u2.2).bind fun u3 =>
          if u3.1 = 0 then
            dX12_run_49 x1 x2 u3.2
          else
            some ((-3 : Int32), u3.2)
    else
      some ((-2 : Int32), u2.2)
noncomputable abbrev gX12_run (av : List Value) (σ : sf_S) : Option (Int32 × sf_S) := match av with
  | [.ref q, .int x1, .int x2] => (match sf_rv [0] q with | true => dX12_run x1 x2 σ | false => none)
  | _ => none
set_option maxRecDepth 100000 in
set_option maxHeartbeats 4000000 in
theorem rX12_run {Wt : Nat → sf_L → List Value → sf_S → Prop} {Post : (Int32 × sf_S) → Prop} (hs : sf_Snd Wt sf_layM sf_hI jX12_run tX12_run Post) (hm : sf_mono Wt) : ∀ av σ u, gX12_run av σ = some u → Post u → (∀ ad, (lg_sl (av.map (sf_v ad))).length ≤ 4) ∧ Wt 0 (sf_ent 0 av) [] σ := by
  intro av σ u h hp
  unfold gX12_run at h
  split at h
  · rename_i q x1 x2
    split at h
    · rename_i hq
      have hq : q = 0 := by simpa using sf_rv_mem hq
      subst hq
      refine ⟨fun ad => Nat.le_of_ble_eq_true rfl, ?_⟩
      exact sf_run_ok hs (sf_sm_cons (rX12_run_49 hs hm) sf_sm_nil) 108 0 _ _ σ u h hp
    · cases h
  · cases h
theorem kX12_run (l : Launch) : sf_C l sf_layM yX12_run cX12_run 4 (some .int) (sf_rm 7 245) (fun av σ => (gX12_run av σ).map sf_vI) :=
  sf_met (tab := tX12_run) (J := jX12_run) (fl := sf_fl12) (cl := sf_cl12) (by decide +kernel) ⟨rfl, rfl⟩ sf_RH_I (by decide +kernel) sf_fl12_ok sf_cl12_ok
    (sf_JO_cons (sf_je_S (n := 3) (tv := sf_vI) (kX12_in l) mwX12_in (by decide +kernel : decode cX12_run 6 = .ok (.invokestatic 132, 3)) wt_1378 wt_1379 (by decide +kernel) (sf_RM_of (by omega) (by omega))) (sf_JO_cons (sf_je_S (n := 3) (tv := sf_vI) (kX12_in l) mwX12_in (by decide +kernel : decode cX12_run 18 = .ok (.invokestatic 132, 3)) wt_1378 wt_1379 (by decide +kernel) (sf_RM_of (by omega) (by omega))) (sf_JO_cons (sf_je_V (n := 1) (cs := [10]) (tv := sf_vI) (kX12_hasEndless l) mwX12_hasEndless (by decide +kernel : decode cX12_run 40 = .ok (.invokevirtual 402, 3)) wt_1570 wt_1572 wt_110 (by decide +kernel) (by decide) (by decide) (List.forall_mem_cons.mpr ⟨⟨_, _, rfl⟩, fun _ h => absurd h List.not_mem_nil⟩) (sf_RM_of (by omega) (by omega))) (sf_JO_cons (sf_je_V (n := 3) (cs := [10]) (tv := sf_vV) (kX12_runs l) mwX12_runs (by decide +kernel : decode cX12_run 52 = .ok (.invokevirtual 405, 3)) wt_1574 wt_1576 wt_111 (by decide +kernel) (by decide) (by decide) (List.forall_mem_cons.mpr ⟨⟨_, _, rfl⟩, fun _ h => absurd h List.not_mem_nil⟩) (sf_RM_of (by omega) (by omega))) (sf_JO_nil)))))
    (fun Wt Post hs hm => rX12_run hs hm)
-- ===== StreamFuserModel.result(I)J =====
abbrev tX12_result : List (Nat × sf_E) := [(0, (.iload_n 1, 1, 0, .null, [], [])), (1, (.i2l, 2, 0, .null, [], [])), (2, (.lconst 0, 3, 0, .long 0, [], [])), (3, (.aload_n 0, 4, 0, .null, [], [])), (4, (.getfield 408, 7, 0, .null, [], [(10, 55)])), (7, (.iconst 1, 8, 0, .int (1), [], [])), (8, (.isub, 9, 0, .null, [], [])), (9, (.i2l, 10, 0, .null, [], [])), (10, (.invokestatic 132, 13, 0, .null, [], [])), (13, (.ifCond .eq 13, 16, 26, .null, [], [])), (16, (.aload_n 0, 17, 0, .null, [], [])), (17, (.getfield 112, 20, 0, .null, [], [(10, 54)])), (20, (.iload_n 1, 21, 0, .null, [], [])), (21, (.iaload, 22, 0, .null, [], [])), (22, (.i2l, 23, 0, .null, [], [])), (23, (.goto 8, 26, 31, .null, [], [])), (26, (.bipush (-2), 28, 0, .int (-2), [], [])), (28, (.invokestatic 411, 31, 0, .null, [], [])), (31, (.lreturn, 32, 0, .null, [], []))]
noncomputable abbrev jX12_result : List (Nat × sf_J (Int64 × sf_S)) := [(10, sf_jI sf_layM [] 3 gX12_in), (28, sf_jL sf_layM [] 1 gX12_no)]
noncomputable def dX12_result (x1 : Int32) (σ : sf_S) : Option (Int64 × sf_S) :=
  (dX12_in x1.toInt64 (0 : Int64) (((σ 0 55) - (1 : Int32))).toInt64 σ).bind fun u1 =>
  if u1.1 = 0 then
    (dX12_no (-2 : Int32) u1.2).bind fun u2 =>
    some (u2.1, u2.2)
  else
    if sf_in x1 40 then
      some (((u1.2 35 x1.toNatClampNeg)).toInt64, u1.2)
    else
      none
noncomputable abbrev gX12_result (av : List Value) (σ : sf_S) : Option (Int64 × sf_S) := match av with
  | [.ref q, .int x1] => (match sf_rv [0] q with | true => dX12_result x1 σ | false => none)
  | _ => none
set_option maxRecDepth 100000 in
set_option maxHeartbeats 4000000 in
theorem rX12_result {Wt : Nat → sf_L → List Value → sf_S → Prop} {Post : (Int64 × sf_S) → Prop} (hs : sf_Snd Wt sf_layM sf_hL jX12_result tX12_result Post) (hm : sf_mono Wt) : ∀ av σ u, gX12_result av σ = some u → Post u → (∀ ad, (lg_sl (av.map (sf_v ad))).length ≤ 2) ∧ Wt 0 (sf_ent 0 av) [] σ := by
  intro av σ u h hp
  unfold gX12_result at h
  split at h
  · rename_i q x1
    split at h
    · rename_i hq
      have hq : q = 0 := by simpa using sf_rv_mem hq
      subst hq
      refine ⟨fun ad => Nat.le_of_ble_eq_true rfl, ?_⟩
      exact sf_run_ok hs sf_sm_nil 24 0 _ _ σ u h hp
    · cases h
  · cases h
theorem kX12_result (l : Launch) : sf_C l sf_layM yX12_result cX12_result 2 (some .long) (sf_rm 2 125) (fun av σ => (gX12_result av σ).map sf_vL) :=
  sf_met (tab := tX12_result) (J := jX12_result) (fl := sf_fl12) (cl := sf_cl12) (by decide +kernel) ⟨rfl, rfl⟩ sf_RH_L (by decide +kernel) sf_fl12_ok sf_cl12_ok
    (sf_JO_cons (sf_je_S (n := 3) (tv := sf_vI) (kX12_in l) mwX12_in (by decide +kernel : decode cX12_result 10 = .ok (.invokestatic 132, 3)) wt_1378 wt_1379 (by decide +kernel) (sf_RM_of (by omega) (by omega))) (sf_JO_cons (sf_je_S (n := 1) (tv := sf_vL) (kX12_no l) mwX12_no (by decide +kernel : decode cX12_result 28 = .ok (.invokestatic 411, 3)) wt_1680 wt_1681 (by decide +kernel) (sf_RM_of (by omega) (by omega))) (sf_JO_nil)))
    (fun Wt Post hs hm => rX12_result hs hm)
-- ===== StreamFuserModel.foldBy(I)J =====
abbrev tX12_foldBy : List (Nat × sf_E) := [(0, (.lconst 0, 1, 0, .long 0, [], [])), (1, (.lstore_n 2, 2, 0, .null, [], [])), (2, (.ldc 154, 4, 0, .int (-2147483648), [], [])), (4, (.istore 4, 6, 0, .null, [], [])), (6, (.ldc_w 415, 9, 0, .int (2147483647), [], [])), (9, (.istore 5, 11, 0, .null, [], [])), (11, (.iconst 0, 12, 0, .int (0), [], [])), (12, (.istore 6, 14, 0, .null, [], [])), (14, (.iload 6, 16, 0, .null, [], [])), (16, (.aload_n 0, 17, 0, .null, [], [])), (17, (.getfield 408, 20, 0, .null, [], [(10, 55)])), (20, (.if_icmp .ge 48, 23, 68, .null, [], [])), (23, (.lload_n 2, 24, 0, .null, [], [])), (24, (.aload_n 0, 25, 0, .null, [], [])), (25, (.getfield 112, 28, 0, .null, [], [(10, 54)])), (28, (.iload 6, 30, 0, .null, [], [])), (30, (.iaload, 31, 0, .null, [], [])), (31, (.i2l, 32, 0, .null, [], [])), (32, (.ladd, 33, 0, .null, [], [])), (33, (.lstore_n 2, 34, 0, .null, [], [])), (34, (.iload 4, 36, 0, .null, [], [])), (36, (.aload_n 0, 37, 0, .null, [], [])), (37, (.getfield 112, 40, 0, .null, [], [(10, 54)])), (40, (.iload 6, 42, 0, .null, [], [])), (42, (.iaload, 43, 0, .null, [], [])), (43, (.invokestatic 266, 46, 0, .null, [], [])), (46, (.istore 4, 48, 0, .null, [], [])), (48, (.iload 5, 50, 0, .null, [], [])), (50, (.aload_n 0, 51, 0, .null, [], [])), (51, (.getfield 112, 54, 0, .null, [], [(10, 54)])), (54, (.iload 6, 56, 0, .null, [], [])), (56, (.iaload, 57, 0, .null, [], [])), (57, (.invokestatic 260, 60, 0, .null, [], [])), (60, (.istore 5, 62, 0, .null, [], [])), (62, (.iinc 6 1, 65, 0, .int (1), [], [])), (65, (.goto (-51), 68, 14, .null, [], [])), (68, (.iload_n 1, 69, 0, .null, [], [])), (69, (.ifCond .ne 7, 72, 76, .null, [], [])), (72, (.lload_n 2, 73, 0, .null, [], [])), (73, (.goto 32, 76, 105, .null, [], [])), (76, (.aload_n 0, 77, 0, .null, [], [])), (77, (.getfield 408, 80, 0, .null, [], [(10, 55)])), (80, (.ifCond .ne 11, 83, 91, .null, [], [])), (83, (.bipush (-3), 85, 0, .int (-3), [], [])), (85, (.invokestatic 411, 88, 0, .null, [], [])), (88, (.goto 17, 91, 105, .null, [], [])), (91, (.iload_n 1, 92, 0, .null, [], [])), (92, (.iconst 1, 93, 0, .int (1), [], [])), (93, (.if_icmp .ne 9, 96, 102, .null, [], [])), (96, (.iload 4, 98, 0, .null, [], [])), (98, (.i2l, 99, 0, .null, [], [])), (99, (.goto 6, 102, 105, .null, [], [])), (102, (.iload 5, 104, 0, .null, [], [])), (104, (.i2l, 105, 0, .null, [], [])), (105, (.lreturn, 106, 0, .null, [], []))]
noncomputable abbrev jX12_foldBy : List (Nat × sf_J (Int64 × sf_S)) := [(43, sf_jI sf_layM [] 2 gX12_greater), (57, sf_jI sf_layM [] 2 gX12_lesser), (85, sf_jL sf_layM [] 1 gX12_no)]
abbrev wX12_foldBy_14 {ρ : Type} (k : Int32 → Int64 → Int32 → Int32 → Int32 → sf_S → Option ρ) : sf_M ρ := fun L st σ => sf_lda L 0 fun a0 => sf_eq a0 0 (sf_ldi L 1 fun x1 => sf_ldl L 2 fun x2 => sf_ldi L 4 fun x4 => sf_ldi L 5 fun x5 => sf_ldi L 6 fun x6 => sf_nil st (k x1 x2 x4 x5 x6 σ))
theorem wX12_foldBy_14_ok {ρ : Type} {Wt : Nat → sf_L → List Value → sf_S → Prop} {Post : ρ → Prop} (hm : sf_mono Wt) {k : Int32 → Int64 → Int32 → Int32 → Int32 → sf_S → Option ρ} (h : ∀ (x1 : Int32) (x2 : Int64) (x4 : Int32) (x5 : Int32) (x6 : Int32) (σ : sf_S) (u : ρ), k x1 x2 x4 x5 x6 σ = some u → Post u → Wt 14 [(0, some (.ref 0)), (1, some (.int x1)), (2, some (.long x2)), (4, some (.int x4)), (5, some (.int x5)), (6, some (.int x6))] [] σ) : sf_CK Wt Post 14 (wX12_foldBy_14 k) := by
  intro L st σ u hf hp
  unfold wX12_foldBy_14 at hf
  have hf0 := hf
  obtain ⟨a0, e0, hf1⟩ := sf_lda_inv hf0
  obtain ⟨rfl, hf2⟩ := sf_eq_inv hf1
  obtain ⟨x1, e1, hf3⟩ := sf_ldi_inv hf2
  obtain ⟨x2, e2, hf4⟩ := sf_ldl_inv hf3
  obtain ⟨x4, e4, hf5⟩ := sf_ldi_inv hf4
  obtain ⟨x5, e5, hf6⟩ := sf_ldi_inv hf5
  obtain ⟨x6, e6, hf7⟩ := sf_ldi_inv hf6
  obtain ⟨rfl, hz⟩ := sf_nil_inv hf7
  exact hm _ [(0, some (.ref _)), (1, some (.int x1)), (2, some (.long x2)), (4, some (.int x4)), (5, some (.int x5)), (6, some (.int x6))] _ _ _ (sf_le_ok (And.intro e0 (And.intro e1 (And.intro e2 (And.intro e4 (And.intro e5 (And.intro e6 trivial))))))) (h _ _ _ _ _ _ _ hz hp)
noncomputable def dX12_foldBy_14 : Nat → Int32 → Int64 → Int32 → Int32 → Int32 → sf_S → Option (Int64 × sf_S)
  | 0 => fun _ _ _ _ _ _ => none
  | n + 1 => fun x1 x2 x4 x5 x6 σ =>
    if (σ 0 55) ≤ x6 then
      if ¬ x1 = 0 then
        if ¬ (σ 0 55) = 0 then
          if ¬ x1 = (1 : Int32) then
            some (x5.toInt64, σ)
          else
            some (x4.toInt64, σ)
        else
          (dX12_no (-3 : Int32) σ).bind fun u1 =>
          some (u1.1, u1.2)
      else
        some (x2, σ)
    else
      if sf_in x6 40 then
        let v2 := (x2 + ((σ 35 x6.toNatClampNeg)).toInt64)
        if sf_in x6 40 then
          (dX12_greater x4 (σ 35 x6.toNatClampNeg) σ).bind fun u3 =>
          if sf_in x6 40 then
            (dX12_lesser x5 (u3.2 35 x6.toNatClampNeg) u3.2).bind fun u4 =>
            dX12_foldBy_14 n x1 v2 u3.1 u4.1 (x6 + (1 : Int32)) u4.2
          else
            none
        else
          none
      else
        none
set_option maxRecDepth 100000 in
set_option maxHeartbeats 4000000 in
theorem rX12_foldBy_14 {Wt : Nat → sf_L → List Value → sf_S → Prop} {Post : (Int64 × sf_S) → Prop} (hs : sf_Snd Wt sf_layM sf_hL jX12_foldBy tX12_foldBy Post) (hm : sf_mono Wt) : ∀ n : Nat, sf_CK Wt Post 14 (wX12_foldBy_14 (dX12_foldBy_14 n)) := by
  intro n
  induction n with
  | zero => exact wX12_foldBy_14_ok hm (fun x1 x2 x4 x5 x6 σ u h _ => by simp [dX12_foldBy_14] at h)
  | succ n ih =>
    refine wX12_foldBy_14_ok hm ?_
    intro x1 x2 x4 x5 x6 σ u h hp
    exact sf_run_ok hs (sf_sm_cons ih sf_sm_nil) 60 14 _ _ σ u h hp
noncomputable def dX12_foldBy (x1 : Int32) (σ : sf_S) : Option (Int64 × sf_S) :=
  dX12_foldBy_14 sf_F x1 (0 : Int64) (-2147483648 : Int32) (2147483647 : Int32) (0 : Int32) σ
noncomputable abbrev gX12_foldBy (av : List Value) (σ : sf_S) : Option (Int64 × sf_S) := match av with
  | [.ref q, .int x1] => (match sf_rv [0] q with | true => dX12_foldBy x1 σ | false => none)
  | _ => none
set_option maxRecDepth 100000 in
set_option maxHeartbeats 4000000 in
theorem rX12_foldBy {Wt : Nat → sf_L → List Value → sf_S → Prop} {Post : (Int64 × sf_S) → Prop} (hs : sf_Snd Wt sf_layM sf_hL jX12_foldBy tX12_foldBy Post) (hm : sf_mono Wt) : ∀ av σ u, gX12_foldBy av σ = some u → Post u → (∀ ad, (lg_sl (av.map (sf_v ad))).length ≤ 7) ∧ Wt 0 (sf_ent 0 av) [] σ := by
  intro av σ u h hp
  unfold gX12_foldBy at h
  split at h
  · rename_i q x1
    split at h
    · rename_i hq
      have hq : q = 0 := by simpa using sf_rv_mem hq
      subst hq
      refine ⟨fun ad => Nat.le_of_ble_eq_true rfl, ?_⟩
      exact sf_run_ok hs (sf_sm_cons (rX12_foldBy_14 hs hm sf_F) sf_sm_nil) 60 0 _ _ σ u h hp
    · cases h
  · cases h
theorem kX12_foldBy (l : Launch) : sf_C l sf_layM yX12_foldBy cX12_foldBy 7 (some .long) (sf_rm 2 121) (fun av σ => (gX12_foldBy av σ).map sf_vL) :=
  sf_met (tab := tX12_foldBy) (J := jX12_foldBy) (fl := sf_fl12) (cl := sf_cl12) (by decide +kernel) ⟨rfl, rfl⟩ sf_RH_L (by decide +kernel) sf_fl12_ok sf_cl12_ok
    (sf_JO_cons (sf_je_S (n := 2) (tv := sf_vI) (kX12_greater l) mwX12_greater (by decide +kernel : decode cX12_foldBy 43 = .ok (.invokestatic 266, 3)) wt_1549 wt_1550 (by decide +kernel) (sf_RM_of (by omega) (by omega))) (sf_JO_cons (sf_je_S (n := 2) (tv := sf_vI) (kX12_lesser l) mwX12_lesser (by decide +kernel : decode cX12_foldBy 57 = .ok (.invokestatic 260, 3)) wt_1538 wt_1539 (by decide +kernel) (sf_RM_of (by omega) (by omega))) (sf_JO_cons (sf_je_S (n := 1) (tv := sf_vL) (kX12_no l) mwX12_no (by decide +kernel : decode cX12_foldBy 85 = .ok (.invokestatic 411, 3)) wt_1680 wt_1681 (by decide +kernel) (sf_RM_of (by omega) (by omega))) (sf_JO_nil))))
    (fun Wt Post hs hm => rX12_foldBy hs hm)
-- ===== StreamFuserModel.fold(I)J =====
abbrev tX12_fold : List (Nat × sf_E) := [(0, (.iload_n 1, 1, 0, .null, [], [])), (1, (.i2l, 2, 0, .null, [], [])), (2, (.lconst 0, 3, 0, .long 0, [], [])), (3, (.ldc2_w 140, 6, 0, .long (2), [], [])), (6, (.invokestatic 132, 9, 0, .null, [], [])), (9, (.ifCond .eq 11, 12, 20, .null, [], [])), (12, (.aload_n 0, 13, 0, .null, [], [])), (13, (.iload_n 1, 14, 0, .null, [], [])), (14, (.invokevirtual 416, 17, 0, .null, [], [])), (17, (.goto 8, 20, 25, .null, [], [])), (20, (.bipush (-2), 22, 0, .int (-2), [], [])), (22, (.invokestatic 411, 25, 0, .null, [], [])), (25, (.lreturn, 26, 0, .null, [], []))]
noncomputable abbrev jX12_fold : List (Nat × sf_J (Int64 × sf_S)) := [(6, sf_jI sf_layM [] 3 gX12_in), (14, sf_jL sf_layM [10] 2 gX12_foldBy), (22, sf_jL sf_layM [] 1 gX12_no)]
noncomputable def dX12_fold (x1 : Int32) (σ : sf_S) : Option (Int64 × sf_S) :=
  (dX12_in x1.toInt64 (0 : Int64) (2 : Int64) σ).bind fun u1 =>
  if u1.1 = 0 then
    (dX12_no (-2 : Int32) u1.2).bind fun u2 =>
    some (u2.1, u2.2)
  else
    (dX12_foldBy x1 u1.2).bind fun u3 =>
    some (u3.1, u3.2)
noncomputable abbrev gX12_fold (av : List Value) (σ : sf_S) : Option (Int64 × sf_S) := match av with
  | [.ref q, .int x1] => (match sf_rv [0] q with | true => dX12_fold x1 σ | false => none)
  | _ => none
set_option maxRecDepth 100000 in
set_option maxHeartbeats 4000000 in
theorem rX12_fold {Wt : Nat → sf_L → List Value → sf_S → Prop} {Post : (Int64 × sf_S) → Prop} (hs : sf_Snd Wt sf_layM sf_hL jX12_fold tX12_fold Post) (hm : sf_mono Wt) : ∀ av σ u, gX12_fold av σ = some u → Post u → (∀ ad, (lg_sl (av.map (sf_v ad))).length ≤ 2) ∧ Wt 0 (sf_ent 0 av) [] σ := by
  intro av σ u h hp
  unfold gX12_fold at h
  split at h
  · rename_i q x1
    split at h
    · rename_i hq
      have hq : q = 0 := by simpa using sf_rv_mem hq
      subst hq
      refine ⟨fun ad => Nat.le_of_ble_eq_true rfl, ?_⟩
      exact sf_run_ok hs sf_sm_nil 18 0 _ _ σ u h hp
    · cases h
  · cases h
theorem kX12_fold (l : Launch) : sf_C l sf_layM yX12_fold cX12_fold 2 (some .long) (sf_rm 3 147) (fun av σ => (gX12_fold av σ).map sf_vL) :=
  sf_met (tab := tX12_fold) (J := jX12_fold) (fl := sf_fl12) (cl := sf_cl12) (by decide +kernel) ⟨rfl, rfl⟩ sf_RH_L (by decide +kernel) sf_fl12_ok sf_cl12_ok
    (sf_JO_cons (sf_je_S (n := 3) (tv := sf_vI) (kX12_in l) mwX12_in (by decide +kernel : decode cX12_fold 6 = .ok (.invokestatic 132, 3)) wt_1378 wt_1379 (by decide +kernel) (sf_RM_of (by omega) (by omega))) (sf_JO_cons (sf_je_V (n := 2) (cs := [10]) (tv := sf_vL) (kX12_foldBy l) mwX12_foldBy (by decide +kernel : decode cX12_fold 14 = .ok (.invokevirtual 416, 3)) wt_1688 wt_1690 wt_136 (by decide +kernel) (by decide) (by decide) (List.forall_mem_cons.mpr ⟨⟨_, _, rfl⟩, fun _ h => absurd h List.not_mem_nil⟩) (sf_RM_of (by omega) (by omega))) (sf_JO_cons (sf_je_S (n := 1) (tv := sf_vL) (kX12_no l) mwX12_no (by decide +kernel : decode cX12_fold 22 = .ok (.invokestatic 411, 3)) wt_1680 wt_1681 (by decide +kernel) (sf_RM_of (by omega) (by omega))) (sf_JO_nil))))
    (fun Wt Post hs hm => rX12_fold hs hm)
-- ===== StreamFuserModel.failure(I)I =====
abbrev tX12_failure : List (Nat × sf_E) := [(0, (.iload_n 1, 1, 0, .null, [], [])), (1, (.i2l, 2, 0, .null, [], [])), (2, (.lconst 0, 3, 0, .long 0, [], [])), (3, (.lconst 1, 4, 0, .long 1, [], [])), (4, (.invokestatic 132, 7, 0, .null, [], [])), (7, (.ifCond .eq 12, 10, 19, .null, [], [])), (10, (.aload_n 0, 11, 0, .null, [], [])), (11, (.getfield 109, 14, 0, .null, [], [(10, 53)])), (14, (.iload_n 1, 15, 0, .null, [], [])), (15, (.iaload, 16, 0, .null, [], [])), (16, (.goto 5, 19, 21, .null, [], [])), (19, (.bipush (-2), 21, 0, .int (-2), [], [])), (21, (.ireturn, 22, 0, .null, [], []))]
noncomputable abbrev jX12_failure : List (Nat × sf_J (Int32 × sf_S)) := [(4, sf_jI sf_layM [] 3 gX12_in)]
noncomputable def dX12_failure (x1 : Int32) (σ : sf_S) : Option (Int32 × sf_S) :=
  (dX12_in x1.toInt64 (0 : Int64) (1 : Int64) σ).bind fun u1 =>
  if u1.1 = 0 then
    some ((-2 : Int32), u1.2)
  else
    if sf_in x1 6 then
      some ((u1.2 34 x1.toNatClampNeg), u1.2)
    else
      none
noncomputable abbrev gX12_failure (av : List Value) (σ : sf_S) : Option (Int32 × sf_S) := match av with
  | [.ref q, .int x1] => (match sf_rv [0] q with | true => dX12_failure x1 σ | false => none)
  | _ => none
set_option maxRecDepth 100000 in
set_option maxHeartbeats 4000000 in
theorem rX12_failure {Wt : Nat → sf_L → List Value → sf_S → Prop} {Post : (Int32 × sf_S) → Prop} (hs : sf_Snd Wt sf_layM sf_hI jX12_failure tX12_failure Post) (hm : sf_mono Wt) : ∀ av σ u, gX12_failure av σ = some u → Post u → (∀ ad, (lg_sl (av.map (sf_v ad))).length ≤ 2) ∧ Wt 0 (sf_ent 0 av) [] σ := by
  intro av σ u h hp
  unfold gX12_failure at h
  split at h
  · rename_i q x1
    split at h
    · rename_i hq
      have hq : q = 0 := by simpa using sf_rv_mem hq
      subst hq
      refine ⟨fun ad => Nat.le_of_ble_eq_true rfl, ?_⟩
      exact sf_run_ok hs sf_sm_nil 18 0 _ _ σ u h hp
    · cases h
  · cases h
theorem kX12_failure (l : Launch) : sf_C l sf_layM yX12_failure cX12_failure 2 (some .int) (sf_rm 2 125) (fun av σ => (gX12_failure av σ).map sf_vI) :=
  sf_met (tab := tX12_failure) (J := jX12_failure) (fl := sf_fl12) (cl := sf_cl12) (by decide +kernel) ⟨rfl, rfl⟩ sf_RH_I (by decide +kernel) sf_fl12_ok sf_cl12_ok
    (sf_JO_cons (sf_je_S (n := 3) (tv := sf_vI) (kX12_in l) mwX12_in (by decide +kernel : decode cX12_failure 4 = .ok (.invokestatic 132, 3)) wt_1378 wt_1379 (by decide +kernel) (sf_RM_of (by omega) (by omega))) (sf_JO_nil))
    (fun Wt Post hs hm => rX12_failure hs hm)
-- ===== StreamFuserModel.told(I)I =====
abbrev tX12_told : List (Nat × sf_E) := [(0, (.iload_n 1, 1, 0, .null, [], [])), (1, (.i2l, 2, 0, .null, [], [])), (2, (.lconst 0, 3, 0, .long 0, [], [])), (3, (.ldc2_w 130, 6, 0, .long (3), [], [])), (6, (.invokestatic 132, 9, 0, .null, [], [])), (9, (.ifCond .eq 14, 12, 23, .null, [], [])), (12, (.aload_n 0, 13, 0, .null, [], [])), (13, (.getfield 109, 16, 0, .null, [], [(10, 53)])), (16, (.iconst 2, 17, 0, .int (2), [], [])), (17, (.iload_n 1, 18, 0, .null, [], [])), (18, (.iadd, 19, 0, .null, [], [])), (19, (.iaload, 20, 0, .null, [], [])), (20, (.goto 5, 23, 25, .null, [], [])), (23, (.bipush (-2), 25, 0, .int (-2), [], [])), (25, (.ireturn, 26, 0, .null, [], []))]
noncomputable abbrev jX12_told : List (Nat × sf_J (Int32 × sf_S)) := [(6, sf_jI sf_layM [] 3 gX12_in)]
noncomputable def dX12_told (x1 : Int32) (σ : sf_S) : Option (Int32 × sf_S) :=
  (dX12_in x1.toInt64 (0 : Int64) (3 : Int64) σ).bind fun u1 =>
  if u1.1 = 0 then
    some ((-2 : Int32), u1.2)
  else
    let v2 := ((2 : Int32) + x1)
    if sf_in v2 6 then
      some ((u1.2 34 v2.toNatClampNeg), u1.2)
    else
      none
noncomputable abbrev gX12_told (av : List Value) (σ : sf_S) : Option (Int32 × sf_S) := match av with
  | [.ref q, .int x1] => (match sf_rv [0] q with | true => dX12_told x1 σ | false => none)
  | _ => none
set_option maxRecDepth 100000 in
set_option maxHeartbeats 4000000 in
theorem rX12_told {Wt : Nat → sf_L → List Value → sf_S → Prop} {Post : (Int32 × sf_S) → Prop} (hs : sf_Snd Wt sf_layM sf_hI jX12_told tX12_told Post) (hm : sf_mono Wt) : ∀ av σ u, gX12_told av σ = some u → Post u → (∀ ad, (lg_sl (av.map (sf_v ad))).length ≤ 2) ∧ Wt 0 (sf_ent 0 av) [] σ := by
  intro av σ u h hp
  unfold gX12_told at h
  split at h
  · rename_i q x1
    split at h
    · rename_i hq
      have hq : q = 0 := by simpa using sf_rv_mem hq
      subst hq
      refine ⟨fun ad => Nat.le_of_ble_eq_true rfl, ?_⟩
      exact sf_run_ok hs sf_sm_nil 20 0 _ _ σ u h hp
    · cases h
  · cases h
theorem kX12_told (l : Launch) : sf_C l sf_layM yX12_told cX12_told 2 (some .int) (sf_rm 2 125) (fun av σ => (gX12_told av σ).map sf_vI) :=
  sf_met (tab := tX12_told) (J := jX12_told) (fl := sf_fl12) (cl := sf_cl12) (by decide +kernel) ⟨rfl, rfl⟩ sf_RH_I (by decide +kernel) sf_fl12_ok sf_cl12_ok
    (sf_JO_cons (sf_je_S (n := 3) (tv := sf_vI) (kX12_in l) mwX12_in (by decide +kernel : decode cX12_told 6 = .ok (.invokestatic 132, 3)) wt_1378 wt_1379 (by decide +kernel) (sf_RM_of (by omega) (by omega))) (sf_JO_nil))
    (fun Wt Post hs hm => rX12_told hs hm)
-- ===== StreamFuserModel.writtenBy(II)J =====
abbrev tX12_writtenBy : List (Nat × sf_E) := [(0, (.iload_n 2, 1, 0, .null, [], [])), (1, (.ifCond .ne 13, 4, 14, .null, [], [])), (4, (.aload_n 0, 5, 0, .null, [], [])), (5, (.getfield 115, 8, 0, .null, [], [(10, 56)])), (8, (.iload_n 1, 9, 0, .null, [], [])), (9, (.iaload, 10, 0, .null, [], [])), (10, (.i2l, 11, 0, .null, [], [])), (11, (.goto 10, 14, 21, .null, [], [])), (14, (.aload_n 0, 15, 0, .null, [], [])), (15, (.getfield 118, 18, 0, .null, [], [(10, 57)])), (18, (.iload_n 1, 19, 0, .null, [], [])), (19, (.iaload, 20, 0, .null, [], [])), (20, (.i2l, 21, 0, .null, [], [])), (21, (.lreturn, 22, 0, .null, [], []))]
noncomputable abbrev jX12_writtenBy : List (Nat × sf_J (Int64 × sf_S)) := []
noncomputable def dX12_writtenBy (x1 : Int32) (x2 : Int32) (σ : sf_S) : Option (Int64 × sf_S) :=
  if ¬ x2 = 0 then
    if sf_in x1 40 then
      some (((σ 37 x1.toNatClampNeg)).toInt64, σ)
    else
      none
  else
    if sf_in x1 40 then
      some (((σ 36 x1.toNatClampNeg)).toInt64, σ)
    else
      none
noncomputable abbrev gX12_writtenBy (av : List Value) (σ : sf_S) : Option (Int64 × sf_S) := match av with
  | [.ref q, .int x1, .int x2] => (match sf_rv [0] q with | true => dX12_writtenBy x1 x2 σ | false => none)
  | _ => none
set_option maxRecDepth 100000 in
set_option maxHeartbeats 4000000 in
theorem rX12_writtenBy {Wt : Nat → sf_L → List Value → sf_S → Prop} {Post : (Int64 × sf_S) → Prop} (hs : sf_Snd Wt sf_layM sf_hL jX12_writtenBy tX12_writtenBy Post) (hm : sf_mono Wt) : ∀ av σ u, gX12_writtenBy av σ = some u → Post u → (∀ ad, (lg_sl (av.map (sf_v ad))).length ≤ 3) ∧ Wt 0 (sf_ent 0 av) [] σ := by
  intro av σ u h hp
  unfold gX12_writtenBy at h
  split at h
  · rename_i q x1 x2
    split at h
    · rename_i hq
      have hq : q = 0 := by simpa using sf_rv_mem hq
      subst hq
      refine ⟨fun ad => Nat.le_of_ble_eq_true rfl, ?_⟩
      exact sf_run_ok hs sf_sm_nil 19 0 _ _ σ u h hp
    · cases h
  · cases h
theorem kX12_writtenBy (l : Launch) : sf_C l sf_layM yX12_writtenBy cX12_writtenBy 3 (some .long) (sf_rm 1 100) (fun av σ => (gX12_writtenBy av σ).map sf_vL) :=
  sf_met (tab := tX12_writtenBy) (J := jX12_writtenBy) (fl := sf_fl12) (cl := sf_cl12) (by decide +kernel) ⟨rfl, rfl⟩ sf_RH_L (by decide +kernel) sf_fl12_ok sf_cl12_ok
    (sf_JO_nil)
    (fun Wt Post hs hm => rX12_writtenBy hs hm)
-- ===== StreamFuserModel.keptDown()I =====
abbrev tX12_keptDown : List (Nat × sf_E) := [(0, (.bipush 40, 2, 0, .int (40), [], [])), (2, (.aload_n 0, 3, 0, .null, [], [])), (3, (.getfield 109, 6, 0, .null, [], [(10, 53)])), (6, (.iconst 5, 7, 0, .int (5), [], [])), (7, (.iaload, 8, 0, .null, [], [])), (8, (.invokestatic 260, 11, 0, .null, [], [])), (11, (.ireturn, 12, 0, .null, [], []))]
noncomputable abbrev jX12_keptDown : List (Nat × sf_J (Int32 × sf_S)) := [(8, sf_jI sf_layM [] 2 gX12_lesser)]
noncomputable def dX12_keptDown (σ : sf_S) : Option (Int32 × sf_S) :=
  if sf_in (5 : Int32) 6 then
    (dX12_lesser (40 : Int32) (σ 34 ((5 : Int32)).toNatClampNeg) σ).bind fun u1 =>
    some (u1.1, u1.2)
  else
    none
noncomputable abbrev gX12_keptDown (av : List Value) (σ : sf_S) : Option (Int32 × sf_S) := match av with
  | [.ref q] => (match sf_rv [0] q with | true => dX12_keptDown σ | false => none)
  | _ => none
set_option maxRecDepth 100000 in
set_option maxHeartbeats 4000000 in
theorem rX12_keptDown {Wt : Nat → sf_L → List Value → sf_S → Prop} {Post : (Int32 × sf_S) → Prop} (hs : sf_Snd Wt sf_layM sf_hI jX12_keptDown tX12_keptDown Post) (hm : sf_mono Wt) : ∀ av σ u, gX12_keptDown av σ = some u → Post u → (∀ ad, (lg_sl (av.map (sf_v ad))).length ≤ 1) ∧ Wt 0 (sf_ent 0 av) [] σ := by
  intro av σ u h hp
  unfold gX12_keptDown at h
  split at h
  · rename_i q
    split at h
    · rename_i hq
      have hq : q = 0 := by simpa using sf_rv_mem hq
      subst hq
      refine ⟨fun ad => Nat.le_of_ble_eq_true rfl, ?_⟩
      exact sf_run_ok hs sf_sm_nil 12 0 _ _ σ u h hp
    · cases h
  · cases h
theorem kX12_keptDown (l : Launch) : sf_C l sf_layM yX12_keptDown cX12_keptDown 1 (some .int) (sf_rm 2 121) (fun av σ => (gX12_keptDown av σ).map sf_vI) :=
  sf_met (tab := tX12_keptDown) (J := jX12_keptDown) (fl := sf_fl12) (cl := sf_cl12) (by decide +kernel) ⟨rfl, rfl⟩ sf_RH_I (by decide +kernel) sf_fl12_ok sf_cl12_ok
    (sf_JO_cons (sf_je_S (n := 2) (tv := sf_vI) (kX12_lesser l) mwX12_lesser (by decide +kernel : decode cX12_keptDown 8 = .ok (.invokestatic 260, 3)) wt_1538 wt_1539 (by decide +kernel) (sf_RM_of (by omega) (by omega))) (sf_JO_nil))
    (fun Wt Post hs hm => rX12_keptDown hs hm)
-- ===== StreamFuserModel.written(II)J =====
abbrev tX12_written : List (Nat × sf_E) := [(0, (.iload_n 1, 1, 0, .null, [], [])), (1, (.i2l, 2, 0, .null, [], [])), (2, (.lconst 0, 3, 0, .long 0, [], [])), (3, (.aload_n 0, 4, 0, .null, [], [])), (4, (.invokevirtual 419, 7, 0, .null, [], [])), (7, (.iconst 1, 8, 0, .int (1), [], [])), (8, (.isub, 9, 0, .null, [], [])), (9, (.i2l, 10, 0, .null, [], [])), (10, (.invokestatic 132, 13, 0, .null, [], [])), (13, (.ifCond .eq 22, 16, 35, .null, [], [])), (16, (.iload_n 2, 17, 0, .null, [], [])), (17, (.i2l, 18, 0, .null, [], [])), (18, (.lconst 0, 19, 0, .long 0, [], [])), (19, (.lconst 1, 20, 0, .long 1, [], [])), (20, (.invokestatic 132, 23, 0, .null, [], [])), (23, (.ifCond .eq 12, 26, 35, .null, [], [])), (26, (.aload_n 0, 27, 0, .null, [], [])), (27, (.iload_n 1, 28, 0, .null, [], [])), (28, (.iload_n 2, 29, 0, .null, [], [])), (29, (.invokevirtual 422, 32, 0, .null, [], [])), (32, (.goto 8, 35, 40, .null, [], [])), (35, (.bipush (-2), 37, 0, .int (-2), [], [])), (37, (.invokestatic 411, 40, 0, .null, [], [])), (40, (.lreturn, 41, 0, .null, [], []))]
noncomputable abbrev jX12_written : List (Nat × sf_J (Int64 × sf_S)) := [(4, sf_jI sf_layM [10] 1 gX12_keptDown), (10, sf_jI sf_layM [] 3 gX12_in), (20, sf_jI sf_layM [] 3 gX12_in), (29, sf_jL sf_layM [10] 3 gX12_writtenBy), (37, sf_jL sf_layM [] 1 gX12_no)]
noncomputable def dX12_written (x1 : Int32) (x2 : Int32) (σ : sf_S) : Option (Int64 × sf_S) :=
  (dX12_keptDown σ).bind fun u1 =>
  (dX12_in x1.toInt64 (0 : Int64) ((u1.1 - (1 : Int32))).toInt64 u1.2).bind fun u2 =>
  if u2.1 = 0 then
    (dX12_no (-2 : Int32) u2.2).bind fun u3 =>
    some (u3.1, u3.2)
  else
    (dX12_in x2.toInt64 (0 : Int64) (1 : Int64) u2.2).bind fun u4 =>
    if u4.1 = 0 then
      (dX12_no (-2 : Int32) u4.2).bind fun u5 =>
      some (u5.1, u5.2)
    else
      (dX12_writtenBy x1 x2 u4.2).bind fun u6 =>
      some (u6.1, u6.2)
noncomputable abbrev gX12_written (av : List Value) (σ : sf_S) : Option (Int64 × sf_S) := match av with
  | [.ref q, .int x1, .int x2] => (match sf_rv [0] q with | true => dX12_written x1 x2 σ | false => none)
  | _ => none
set_option maxRecDepth 100000 in
set_option maxHeartbeats 4000000 in
theorem rX12_written {Wt : Nat → sf_L → List Value → sf_S → Prop} {Post : (Int64 × sf_S) → Prop} (hs : sf_Snd Wt sf_layM sf_hL jX12_written tX12_written Post) (hm : sf_mono Wt) : ∀ av σ u, gX12_written av σ = some u → Post u → (∀ ad, (lg_sl (av.map (sf_v ad))).length ≤ 3) ∧ Wt 0 (sf_ent 0 av) [] σ := by
  intro av σ u h hp
  unfold gX12_written at h
  split at h
  · rename_i q x1 x2
    split at h
    · rename_i hq
      have hq : q = 0 := by simpa using sf_rv_mem hq
      subst hq
      refine ⟨fun ad => Nat.le_of_ble_eq_true rfl, ?_⟩
      exact sf_run_ok hs sf_sm_nil 29 0 _ _ σ u h hp
    · cases h
  · cases h
theorem kX12_written (l : Launch) : sf_C l sf_layM yX12_written cX12_written 3 (some .long) (sf_rm 3 141) (fun av σ => (gX12_written av σ).map sf_vL) :=
  sf_met (tab := tX12_written) (J := jX12_written) (fl := sf_fl12) (cl := sf_cl12) (by decide +kernel) ⟨rfl, rfl⟩ sf_RH_L (by decide +kernel) sf_fl12_ok sf_cl12_ok
    (sf_JO_cons (sf_je_V (n := 1) (cs := [10]) (tv := sf_vI) (kX12_keptDown l) mwX12_keptDown (by decide +kernel : decode cX12_written 4 = .ok (.invokevirtual 419, 3)) wt_1705 wt_1707 wt_137 (by decide +kernel) (by decide) (by decide) (List.forall_mem_cons.mpr ⟨⟨_, _, rfl⟩, fun _ h => absurd h List.not_mem_nil⟩) (sf_RM_of (by omega) (by omega))) (sf_JO_cons (sf_je_S (n := 3) (tv := sf_vI) (kX12_in l) mwX12_in (by decide +kernel : decode cX12_written 10 = .ok (.invokestatic 132, 3)) wt_1378 wt_1379 (by decide +kernel) (sf_RM_of (by omega) (by omega))) (sf_JO_cons (sf_je_S (n := 3) (tv := sf_vI) (kX12_in l) mwX12_in (by decide +kernel : decode cX12_written 20 = .ok (.invokestatic 132, 3)) wt_1378 wt_1379 (by decide +kernel) (sf_RM_of (by omega) (by omega))) (sf_JO_cons (sf_je_V (n := 3) (cs := [10]) (tv := sf_vL) (kX12_writtenBy l) mwX12_writtenBy (by decide +kernel : decode cX12_written 29 = .ok (.invokevirtual 422, 3)) wt_1709 wt_1711 wt_138 (by decide +kernel) (by decide) (by decide) (List.forall_mem_cons.mpr ⟨⟨_, _, rfl⟩, fun _ h => absurd h List.not_mem_nil⟩) (sf_RM_of (by omega) (by omega))) (sf_JO_cons (sf_je_S (n := 1) (tv := sf_vL) (kX12_no l) mwX12_no (by decide +kernel : decode cX12_written 37 = .ok (.invokestatic 411, 3)) wt_1680 wt_1681 (by decide +kernel) (sf_RM_of (by omega) (by omega))) (sf_JO_nil))))))
    (fun Wt Post hs hm => rX12_written hs hm)
-- ===== StreamFuserModel.write(I)I =====
abbrev tX12_write : List (Nat × sf_E) := [(0, (.iload_n 1, 1, 0, .null, [], [])), (1, (.i2l, 2, 0, .null, [], [])), (2, (.lconst 0, 3, 0, .long 0, [], [])), (3, (.ldc2_w 130, 6, 0, .long (3), [], [])), (6, (.invokestatic 132, 9, 0, .null, [], [])), (9, (.ifCond .ne 6, 12, 15, .null, [], [])), (12, (.bipush (-2), 14, 0, .int (-2), [], [])), (14, (.ireturn, 15, 0, .null, [], [])), (15, (.aload_n 0, 16, 0, .null, [], [])), (16, (.getfield 7, 19, 0, .null, [], [(10, 0)])), (19, (.iload_n 1, 20, 0, .null, [], [])), (20, (.iaload, 21, 0, .null, [], [])), (21, (.ifCond .ge 9, 24, 30, .null, [], [])), (24, (.aload_n 0, 25, 0, .null, [], [])), (25, (.iconst 1, 26, 0, .int (1), [], [])), (26, (.invokevirtual 142, 29, 0, .null, [], [])), (29, (.ireturn, 30, 0, .null, [], [])), (30, (.aload_n 0, 31, 0, .null, [], [])), (31, (.getfield 13, 34, 0, .null, [], [(10, 1)])), (34, (.iload_n 1, 35, 0, .null, [], [])), (35, (.iaload, 36, 0, .null, [], [])), (36, (.aload_n 0, 37, 0, .null, [], [])), (37, (.getfield 408, 40, 0, .null, [], [(10, 55)])), (40, (.invokestatic 260, 43, 0, .null, [], [])), (43, (.istore_n 2, 44, 0, .null, [], [])), (44, (.iconst 0, 45, 0, .int (0), [], [])), (45, (.istore_n 3, 46, 0, .null, [], [])), (46, (.iload_n 3, 47, 0, .null, [], [])), (47, (.iload_n 2, 48, 0, .null, [], [])), (48, (.if_icmp .ge 35, 51, 83, .null, [], [])), (51, (.aload_n 0, 52, 0, .null, [], [])), (52, (.getfield 16, 55, 0, .null, [], [(10, 2)])), (55, (.bipush 60, 57, 0, .int (60), [], [])), (57, (.iload_n 1, 58, 0, .null, [], [])), (58, (.imul, 59, 0, .null, [], [])), (59, (.iload_n 3, 60, 0, .null, [], [])), (60, (.iadd, 61, 0, .null, [], [])), (61, (.aload_n 0, 62, 0, .null, [], [])), (62, (.getfield 7, 65, 0, .null, [], [(10, 0)])), (65, (.iload_n 1, 66, 0, .null, [], [])), (66, (.iaload, 67, 0, .null, [], [])), (67, (.aload_n 0, 68, 0, .null, [], [])), (68, (.getfield 112, 71, 0, .null, [], [(10, 54)])), (71, (.iload_n 3, 72, 0, .null, [], [])), (72, (.iaload, 73, 0, .null, [], [])), (73, (.invokestatic 150, 76, 0, .null, [], [])), (76, (.iastore, 77, 0, .null, [], [])), (77, (.iinc 3 1, 80, 0, .int (1), [], [])), (80, (.goto (-34), 83, 46, .null, [], [])), (83, (.iload_n 2, 84, 0, .null, [], [])), (84, (.ireturn, 85, 0, .null, [], []))]
noncomputable abbrev jX12_write : List (Nat × sf_J (Int32 × sf_S)) := [(6, sf_jI sf_layM [] 3 gX12_in), (26, sf_jI sf_layM [10] 2 gX12_finds), (40, sf_jI sf_layM [] 2 gX12_lesser), (73, sf_jI sf_layM [] 2 gX12_cut)]
abbrev wX12_write_46 {ρ : Type} (k : Int32 → Int32 → Int32 → sf_S → Option ρ) : sf_M ρ := fun L st σ => sf_lda L 0 fun a0 => sf_eq a0 0 (sf_ldi L 1 fun x1 => sf_ldi L 2 fun x2 => sf_ldi L 3 fun x3 => sf_nil st (k x1 x2 x3 σ))
theorem wX12_write_46_ok {ρ : Type} {Wt : Nat → sf_L → List Value → sf_S → Prop} {Post : ρ → Prop} (hm : sf_mono Wt) {k : Int32 → Int32 → Int32 → sf_S → Option ρ} (h : ∀ (x1 : Int32) (x2 : Int32) (x3 : Int32) (σ : sf_S) (u : ρ), k x1 x2 x3 σ = some u → Post u → Wt 46 [(0, some (.ref 0)), (1, some (.int x1)), (2, some (.int x2)), (3, some (.int x3))] [] σ) : sf_CK Wt Post 46 (wX12_write_46 k) := by
  intro L st σ u hf hp
  unfold wX12_write_46 at hf
  have hf0 := hf
  obtain ⟨a0, e0, hf1⟩ := sf_lda_inv hf0
  obtain ⟨rfl, hf2⟩ := sf_eq_inv hf1
  obtain ⟨x1, e1, hf3⟩ := sf_ldi_inv hf2
  obtain ⟨x2, e2, hf4⟩ := sf_ldi_inv hf3
  obtain ⟨x3, e3, hf5⟩ := sf_ldi_inv hf4
  obtain ⟨rfl, hz⟩ := sf_nil_inv hf5
  exact hm _ [(0, some (.ref _)), (1, some (.int x1)), (2, some (.int x2)), (3, some (.int x3))] _ _ _ (sf_le_ok (And.intro e0 (And.intro e1 (And.intro e2 (And.intro e3 trivial))))) (h _ _ _ _ _ hz hp)
noncomputable def dX12_write_46 : Nat → Int32 → Int32 → Int32 → sf_S → Option (Int32 × sf_S)
  | 0 => fun _ _ _ _ => none
  | n + 1 => fun x1 x2 x3 σ =>
    if x2 ≤ x3 then
      some (x2, σ)
    else
      if sf_in x1 4 then
        if sf_in x3 40 then
          (dX12_cut (σ 1 x1.toNatClampNeg) (σ 35 x3.toNatClampNeg) σ).bind fun u1 =>
          let v2 := (((60 : Int32) * x1) + x3)
          if sf_in v2 240 then
            let s3 := sf_up u1.2 3 v2.toNatClampNeg u1.1
            dX12_write_46 n x1 x2 (x3 + (1 : Int32)) s3
          else
            none
        else
          none
      else
        none
set_option maxRecDepth 100000 in
set_option maxHeartbeats 4000000 in
theorem rX12_write_46 {Wt : Nat → sf_L → List Value → sf_S → Prop} {Post : (Int32 × sf_S) → Prop} (hs : sf_Snd Wt sf_layM sf_hI jX12_write tX12_write Post) (hm : sf_mono Wt) : ∀ n : Nat, sf_CK Wt Post 46 (wX12_write_46 (dX12_write_46 n)) := by
  intro n
  induction n with
  | zero => exact wX12_write_46_ok hm (fun x1 x2 x3 σ u h _ => by simp [dX12_write_46] at h)
  | succ n ih =>
    refine wX12_write_46_ok hm ?_
    intro x1 x2 x3 σ u h hp
    exact sf_run_ok hs (sf_sm_cons ih sf_sm_nil) 56 46 _ _ σ u h hp
noncomputable def dX12_write (x1 : Int32) (σ : sf_S) : Option (Int32 × sf_S) :=
  (dX12_in x1.toInt64 (0 : Int64) (3 : Int64) σ).bind fun u1 =>
  if ¬ u1.1 = 0 then
    if sf_in x1 4 then
      if 0 ≤ (u1.2 1 x1.toNatClampNeg) then
        if sf_in x1 4 then
          (dX12_lesser (u1.2 2 x1.toNatClampNeg) (u1.2 0 55) u1.2).bind fun u2 =>
          dX12_write_46 sf_F x1 u2.1 (0 : Int32) u2.2
        else
          none
      else
        (dX12_finds (1 : Int32) u1.2).bind fun u3 =>
        some (u3.1, u3.2)
    else
      none
  else
    some ((-2 : Int32), u1.2)
noncomputable abbrev gX12_write (av : List Value) (σ : sf_S) : Option (Int32 × sf_S) := match av with
  | [.ref q, .int x1] => (match sf_rv [0] q with | true => dX12_write x1 σ | false => none)
  | _ => none
set_option maxRecDepth 100000 in
set_option maxHeartbeats 4000000 in
theorem rX12_write {Wt : Nat → sf_L → List Value → sf_S → Prop} {Post : (Int32 × sf_S) → Prop} (hs : sf_Snd Wt sf_layM sf_hI jX12_write tX12_write Post) (hm : sf_mono Wt) : ∀ av σ u, gX12_write av σ = some u → Post u → (∀ ad, (lg_sl (av.map (sf_v ad))).length ≤ 4) ∧ Wt 0 (sf_ent 0 av) [] σ := by
  intro av σ u h hp
  unfold gX12_write at h
  split at h
  · rename_i q x1
    split at h
    · rename_i hq
      have hq : q = 0 := by simpa using sf_rv_mem hq
      subst hq
      refine ⟨fun ad => Nat.le_of_ble_eq_true rfl, ?_⟩
      exact sf_run_ok hs (sf_sm_cons (rX12_write_46 hs hm sf_F) sf_sm_nil) 56 0 _ _ σ u h hp
    · cases h
  · cases h
theorem kX12_write (l : Launch) : sf_C l sf_layM yX12_write cX12_write 4 (some .int) (sf_rm 2 125) (fun av σ => (gX12_write av σ).map sf_vI) :=
  sf_met (tab := tX12_write) (J := jX12_write) (fl := sf_fl12) (cl := sf_cl12) (by decide +kernel) ⟨rfl, rfl⟩ sf_RH_I (by decide +kernel) sf_fl12_ok sf_cl12_ok
    (sf_JO_cons (sf_je_S (n := 3) (tv := sf_vI) (kX12_in l) mwX12_in (by decide +kernel : decode cX12_write 6 = .ok (.invokestatic 132, 3)) wt_1378 wt_1379 (by decide +kernel) (sf_RM_of (by omega) (by omega))) (sf_JO_cons (sf_je_V (n := 2) (cs := [10]) (tv := sf_vI) (kX12_finds l) mwX12_finds (by decide +kernel : decode cX12_write 26 = .ok (.invokevirtual 142, 3)) wt_1382 wt_1384 wt_83 (by decide +kernel) (by decide) (by decide) (List.forall_mem_cons.mpr ⟨⟨_, _, rfl⟩, fun _ h => absurd h List.not_mem_nil⟩) (sf_RM_of (by omega) (by omega))) (sf_JO_cons (sf_je_S (n := 2) (tv := sf_vI) (kX12_lesser l) mwX12_lesser (by decide +kernel : decode cX12_write 40 = .ok (.invokestatic 260, 3)) wt_1538 wt_1539 (by decide +kernel) (sf_RM_of (by omega) (by omega))) (sf_JO_cons (sf_je_S (n := 2) (tv := sf_vI) (kX12_cut l) mwX12_cut (by decide +kernel : decode cX12_write 73 = .ok (.invokestatic 150, 3)) wt_1398 wt_1399 (by decide +kernel) (sf_RM_of (by omega) (by omega))) (sf_JO_nil)))))
    (fun Wt Post hs hm => rX12_write hs hm)
-- ===== StreamFuserModel.lays(ZI)V =====
abbrev tX12_lays : List (Nat × sf_E) := [(0, (.iconst 0, 1, 0, .int (0), [], [])), (1, (.istore_n 3, 2, 0, .null, [], [])), (2, (.iload_n 3, 3, 0, .null, [], [])), (3, (.iload_n 2, 4, 0, .null, [], [])), (4, (.if_icmp .ge 140, 7, 144, .null, [], [])), (7, (.iload_n 1, 8, 0, .null, [], [])), (8, (.ifCond .eq 68, 11, 76, .null, [], [])), (11, (.aload_n 0, 12, 0, .null, [], [])), (12, (.getfield 121, 15, 0, .null, [], [(10, 58)])), (15, (.iconst 4, 16, 0, .int (4), [], [])), (16, (.iload_n 3, 17, 0, .null, [], [])), (17, (.imul, 18, 0, .null, [], [])), (18, (.aload_n 0, 19, 0, .null, [], [])), (19, (.getfield 40, 22, 0, .null, [], [(10, 17)])), (22, (.iload_n 3, 23, 0, .null, [], [])), (23, (.iaload, 24, 0, .null, [], [])), (24, (.iastore, 25, 0, .null, [], [])), (25, (.aload_n 0, 26, 0, .null, [], [])), (26, (.getfield 121, 29, 0, .null, [], [(10, 58)])), (29, (.iconst 4, 30, 0, .int (4), [], [])), (30, (.iload_n 3, 31, 0, .null, [], [])), (31, (.imul, 32, 0, .null, [], [])), (32, (.iconst 1, 33, 0, .int (1), [], [])), (33, (.iadd, 34, 0, .null, [], [])), (34, (.aload_n 0, 35, 0, .null, [], [])), (35, (.getfield 43, 38, 0, .null, [], [(10, 18)])), (38, (.iload_n 3, 39, 0, .null, [], [])), (39, (.iaload, 40, 0, .null, [], [])), (40, (.iastore, 41, 0, .null, [], [])), (41, (.aload_n 0, 42, 0, .null, [], [])), (42, (.getfield 121, 45, 0, .null, [], [(10, 58)])), (45, (.iconst 4, 46, 0, .int (4), [], [])), (46, (.iload_n 3, 47, 0, .null, [], [])), (47, (.imul, 48, 0, .null, [], [])), (48, (.iconst 2, 49, 0, .int (2), [], [])), (49, (.iadd, 50, 0, .null, [], [])), (50, (.aload_n 0, 51, 0, .null, [], [])), (51, (.getfield 46, 54, 0, .null, [], [(10, 19)])), (54, (.iload_n 3, 55, 0, .null, [], [])), (55, (.iaload, 56, 0, .null, [], [])), (56, (.iastore, 57, 0, .null, [], [])), (57, (.aload_n 0, 58, 0, .null, [], [])), (58, (.getfield 121, 61, 0, .null, [], [(10, 58)])), (61, (.iconst 4, 62, 0, .int (4), [], [])), (62, (.iload_n 3, 63, 0, .null, [], [])), (63, (.imul, 64, 0, .null, [], [])), (64, (.iconst 3, 65, 0, .int (3), [], [])), (65, (.iadd, 66, 0, .null, [], [])), (66, (.aload_n 0, 67, 0, .null, [], [])), (67, (.getfield 49, 70, 0, .null, [], [(10, 20)])), (70, (.iload_n 3, 71, 0, .null, [], [])), (71, (.iaload, 72, 0, .null, [], [])), (72, (.iastore, 73, 0, .null, [], [])), (73, (.goto 65, 76, 138, .null, [], [])), (76, (.aload_n 0, 77, 0, .null, [], [])), (77, (.getfield 40, 80, 0, .null, [], [(10, 17)])), (80, (.iload_n 3, 81, 0, .null, [], [])), (81, (.aload_n 0, 82, 0, .null, [], [])), (82, (.getfield 121, 85, 0, .null, [], [(10, 58)])), (85, (.iconst 4, 86, 0, .int (4), [], [])), (86, (.iload_n 3, 87, 0, .null, [], [])), (87, (.imul, 88, 0, .null, [], [])), (88, (.iaload, 89, 0, .null, [], [])), (89, (.iastore, 90, 0, .null, [], [])), (90, (.aload_n 0, 91, 0, .null, [], [])), (91, (.getfield 43, 94, 0, .null, [], [(10, 18)])), (94, (.iload_n 3, 95, 0, .null, [], [])), (95, (.aload_n 0, 96, 0, .null, [], [])), (96, (.getfield 121, 99, 0, .null, [], [(10, 58)])), (99, (.iconst 4, 100, 0, .int (4), [], [])), (100, (.iload_n 3, 101, 0, .null, [], [])), (101, (.imul, 102, 0, .null, [], [])), (102, (.iconst 1, 103, 0, .int (1), [], [])), (103, (.iadd, 104, 0, .null, [], [])), (104, (.iaload, 105, 0, .null, [], [])), (105, (.iastore, 106, 0, .null, [], [])), (106, (.aload_n 0, 107, 0, .null, [], [])), (107, (.getfield 46, 110, 0, .null, [], [(10, 19)])), (110, (.iload_n 3, 111, 0, .null, [], [])), (111, (.aload_n 0, 112, 0, .null, [], [])), (112, (.getfield 121, 115, 0, .null, [], [(10, 58)])), (115, (.iconst 4, 116, 0, .int (4), [], [])), (116, (.iload_n 3, 117, 0, .null, [], [])), (117, (.imul, 118, 0, .null, [], [])), (118, (.iconst 2, 119, 0, .int (2), [], [])), (119, (.iadd, 120, 0, .null, [], [])), (120, (.iaload, 121, 0, .null, [], [])), (121, (.iastore, 122, 0, .null, [], [])), (122, (.aload_n 0, 123, 0, .null, [], [])), (123, (.getfield 49, 126, 0, .null, [], [(10, 20)])), (126, (.iload_n 3, 127, 0, .null, [], [])), (127, (.aload_n 0, 128, 0, .null, [], [])), (128, (.getfield 121, 131, 0, .null, [], [(10, 58)])), (131, (.iconst 4, 132, 0, .int (4), [], [])), (132, (.iload_n 3, 133, 0, .null, [], [])), (133, (.imul, 134, 0, .null, [], [])), (134, (.iconst 3, 135, 0, .int (3), [], [])), (135, (.iadd, 136, 0, .null, [], [])), (136, (.iaload, 137, 0, .null, [], [])), (137, (.iastore, 138, 0, .null, [], [])), (138, (.iinc 3 1, 141, 0, .int (1), [], [])), (141, (.goto (-139), 144, 2, .null, [], [])), (144, (.aload_n 0, 145, 0, .null, [], [])), (145, (.iload_n 2, 146, 0, .null, [], [])), (146, (.putfield 206, 149, 0, .null, [], [(10, 21)])), (149, (.aload_n 0, 150, 0, .null, [], [])), (150, (.invokevirtual 213, 153, 0, .null, [], [])), (153, (.return_, 154, 0, .null, [], []))]
noncomputable abbrev jX12_lays : List (Nat × sf_J sf_S) := [(150, sf_jV sf_layM [10] 1 gX12_places)]
abbrev wX12_lays_2 {ρ : Type} (k : Int32 → Int32 → Int32 → sf_S → Option ρ) : sf_M ρ := fun L st σ => sf_lda L 0 fun a0 => sf_eq a0 0 (sf_ldi L 1 fun x1 => sf_ldi L 2 fun x2 => sf_ldi L 3 fun x3 => sf_nil st (k x1 x2 x3 σ))
theorem wX12_lays_2_ok {ρ : Type} {Wt : Nat → sf_L → List Value → sf_S → Prop} {Post : ρ → Prop} (hm : sf_mono Wt) {k : Int32 → Int32 → Int32 → sf_S → Option ρ} (h : ∀ (x1 : Int32) (x2 : Int32) (x3 : Int32) (σ : sf_S) (u : ρ), k x1 x2 x3 σ = some u → Post u → Wt 2 [(0, some (.ref 0)), (1, some (.int x1)), (2, some (.int x2)), (3, some (.int x3))] [] σ) : sf_CK Wt Post 2 (wX12_lays_2 k) := by
  intro L st σ u hf hp
  unfold wX12_lays_2 at hf
  have hf0 := hf
  obtain ⟨a0, e0, hf1⟩ := sf_lda_inv hf0
  obtain ⟨rfl, hf2⟩ := sf_eq_inv hf1
  obtain ⟨x1, e1, hf3⟩ := sf_ldi_inv hf2
  obtain ⟨x2, e2, hf4⟩ := sf_ldi_inv hf3
  obtain ⟨x3, e3, hf5⟩ := sf_ldi_inv hf4
  obtain ⟨rfl, hz⟩ := sf_nil_inv hf5
  exact hm _ [(0, some (.ref _)), (1, some (.int x1)), (2, some (.int x2)), (3, some (.int x3))] _ _ _ (sf_le_ok (And.intro e0 (And.intro e1 (And.intro e2 (And.intro e3 trivial))))) (h _ _ _ _ _ hz hp)
noncomputable def dX12_lays_2 : Nat → Int32 → Int32 → Int32 → sf_S → Option sf_S
  | 0 => fun _ _ _ _ => none
  | n + 1 => fun x1 x2 x3 σ =>
    if x2 ≤ x3 then
      let s1 := sf_up σ 0 21 x2
      (dX12_places s1).bind fun u2 =>
      some u2
    else
      if x1 = 0 then
        let v3 := ((4 : Int32) * x3)
        if sf_in v3 160 then
          if sf_in x3 40 then
            let s4 := sf_up σ 11 x3.toNatClampNeg (σ 38 v3.toNatClampNeg)
            let v5 := (((4 : Int32) * x3) + (1 : Int32))
            if sf_in v5 160 then
              if sf_in x3 40 then
                let s6 := sf_up s4 12 x3.toNatClampNeg (s4 38 v5.toNatClampNeg)
                let v7 := (((4 : Int32) * x3) + (2 : Int32))
                if sf_in v7 160 then
                  if sf_in x3 40 then
                    let s8 := sf_up s6 13 x3.toNatClampNeg (s6 38 v7.toNatClampNeg)
                    let v9 := (((4 : Int32) * x3) + (3 : Int32))
                    if sf_in v9 160 then
                      if sf_in x3 40 then
                        let s10 := sf_up s8 14 x3.toNatClampNeg (s8 38 v9.toNatClampNeg)
                        dX12_lays_2 n x1 x2 (x3 + (1 : Int32)) s10
                      else
                        none
                    else
                      none
                  else
                    none
                else
                  none
              else
                none
            else
              none
          else
            none
        else
          none
      else
        if sf_in x3 40 then
          let v11 := ((4 : Int32) * x3)
          if sf_in v11 160 then
            let s12 := sf_up σ 38 v11.toNatClampNeg (σ 11 x3.toNatClampNeg)
            if sf_in x3 40 then
              let v13 := (((4 : Int32) * x3) + (1 : Int32))
              if sf_in v13 160 then
                let s14 := sf_up s12 38 v13.toNatClampNeg (s12 12 x3.toNatClampNeg)
                if sf_in x3 40 then
                  let v15 := (((4 : Int32) * x3) + (2 : Int32))
                  if sf_in v15 160 then
                    let s16 := sf_up s14 38 v15.toNatClampNeg (s14 13 x3.toNatClampNeg)
                    if sf_in x3 40 then
                      let v17 := (((4 : Int32) * x3) + (3 : Int32))
                      if sf_in v17 160 then
                        let s18 := sf_up s16 38 v17.toNatClampNeg (s16 14 x3.toNatClampNeg)
                        dX12_lays_2 n x1 x2 (x3 + (1 : Int32)) s18
                      else
                        none
                    else
                      none
                  else
                    none
                else
                  none
              else
                none
            else
              none
          else
            none
        else
          none
set_option maxRecDepth 100000 in
set_option maxHeartbeats 4000000 in
theorem rX12_lays_2 {Wt : Nat → sf_L → List Value → sf_S → Prop} {Post : sf_S → Prop} (hs : sf_Snd Wt sf_layM sf_hV jX12_lays tX12_lays Post) (hm : sf_mono Wt) : ∀ n : Nat, sf_CK Wt Post 2 (wX12_lays_2 (dX12_lays_2 n)) := by
  intro n
  induction n with
  | zero => exact wX12_lays_2_ok hm (fun x1 x2 x3 σ u h _ => by simp [dX12_lays_2] at h)
  | succ n ih =>
    refine wX12_lays_2_ok hm ?_
    intro x1 x2 x3 σ u h hp
    exact sf_run_ok hs (sf_sm_cons ih sf_sm_nil) 113 2 _ _ σ u h hp
noncomputable def dX12_lays (x1 : Int32) (x2 : Int32) (σ : sf_S) : Option sf_S :=
  dX12_lays_2 sf_F x1 x2 (0 : Int32) σ
noncomputable abbrev gX12_lays (av : List Value) (σ : sf_S) : Option sf_S := match av with
  | [.ref q, .int x1, .int x2] => (match sf_rv [0] q with | true => dX12_lays x1 x2 σ | false => none)
  | _ => none
set_option maxRecDepth 100000 in
set_option maxHeartbeats 4000000 in
theorem rX12_lays {Wt : Nat → sf_L → List Value → sf_S → Prop} {Post : sf_S → Prop} (hs : sf_Snd Wt sf_layM sf_hV jX12_lays tX12_lays Post) (hm : sf_mono Wt) : ∀ av σ u, gX12_lays av σ = some u → Post u → (∀ ad, (lg_sl (av.map (sf_v ad))).length ≤ 4) ∧ Wt 0 (sf_ent 0 av) [] σ := by
  intro av σ u h hp
  unfold gX12_lays at h
  split at h
  · rename_i q x1 x2
    split at h
    · rename_i hq
      have hq : q = 0 := by simpa using sf_rv_mem hq
      subst hq
      refine ⟨fun ad => Nat.le_of_ble_eq_true rfl, ?_⟩
      exact sf_run_ok hs (sf_sm_cons (rX12_lays_2 hs hm sf_F) sf_sm_nil) 113 0 _ _ σ u h hp
    · cases h
  · cases h
theorem kX12_lays (l : Launch) : sf_C l sf_layM yX12_lays cX12_lays 4 none (sf_rm 3 148) (fun av σ => (gX12_lays av σ).map sf_vV) :=
  sf_met (tab := tX12_lays) (J := jX12_lays) (fl := sf_fl12) (cl := sf_cl12) (by decide +kernel) ⟨rfl, rfl⟩ sf_RH_V (by decide +kernel) sf_fl12_ok sf_cl12_ok
    (sf_JO_cons (sf_je_V (n := 1) (cs := [10]) (tv := sf_vV) (kX12_places l) mwX12_places (by decide +kernel : decode cX12_lays 150 = .ok (.invokevirtual 213, 3)) wt_1457 wt_1459 wt_91 (by decide +kernel) (by decide) (by decide) (List.forall_mem_cons.mpr ⟨⟨_, _, rfl⟩, fun _ h => absurd h List.not_mem_nil⟩) (sf_RM_of (by omega) (by omega))) (sf_JO_nil))
    (fun Wt Post hs hm => rX12_lays hs hm)
