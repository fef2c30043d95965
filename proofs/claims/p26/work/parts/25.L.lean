/-! ===== 25.L ===== -/
-- ===== StreamFuserLaw.cell([II)I =====
abbrev tL_cell : List (Nat × sf_E) := [(0, (.iload_n 1, 1, 0, .null, [], [])), (1, (.aload_n 0, 2, 0, .null, [], [])), (2, (.arraylength, 3, 0, .null, [], [])), (3, (.if_icmp .ge 9, 6, 12, .null, [], [])), (6, (.aload_n 0, 7, 0, .null, [], [])), (7, (.iload_n 1, 8, 0, .null, [], [])), (8, (.iaload, 9, 0, .null, [], [])), (9, (.goto 9, 12, 18, .null, [], [])), (12, (.ldc 7, 14, 0, .int (763049417), [], [])), (14, (.iload_n 1, 15, 0, .null, [], [])), (15, (.iconst 3, 16, 0, .int (3), [], [])), (16, (.iadd, 17, 0, .null, [], [])), (17, (.imul, 18, 0, .null, [], [])), (18, (.ireturn, 19, 0, .null, [], []))]
noncomputable abbrev jL_cell (ns : Nat) : List (Nat × sf_J (Int32 × sf_S)) := []
noncomputable def dL_cell (ns : Nat) (x1 : Int32) (σ : sf_S) : Option (Int32 × sf_S) :=
  if (Int32.ofNat ns) ≤ x1 then
    some (((763049417 : Int32) * (x1 + (3 : Int32))), σ)
  else
    if sf_in x1 ns then
      some ((σ 118 x1.toNatClampNeg), σ)
    else
      none
noncomputable abbrev gL_cell (ns : Nat) (av : List Value) (σ : sf_S) : Option (Int32 × sf_S) := match av with
  | [.ref r0, .int x1] => (match sf_rv [118] r0 with | true => dL_cell ns x1 σ | false => none)
  | _ => none
set_option maxRecDepth 100000 in
set_option maxHeartbeats 4000000 in
theorem rL_cell {Wt : Nat → sf_L → List Value → sf_S → Prop} {Post : (Int32 × sf_S) → Prop} {ns : Nat} (hs : sf_Snd Wt (sf_layW ns) sf_hI (jL_cell ns) tL_cell Post) (hm : sf_mono Wt) : ∀ av σ u, gL_cell ns av σ = some u → Post u → (∀ ad, (lg_sl (av.map (sf_v ad))).length ≤ 2) ∧ Wt 0 (sf_ent 0 av) [] σ := by
  intro av σ u h hp
  unfold gL_cell at h
  split at h
  · rename_i r0 x1
    split at h
    · rename_i hq
      have hq : r0 = 118 := by simpa using sf_rv_mem hq
      refine ⟨fun ad => Nat.le_of_ble_eq_true rfl, ?_⟩
      rcases hq with rfl
      exact sf_run_ok hs sf_sm_nil 19 0 _ _ σ u h hp
    · cases h
  · cases h
theorem kL_cell (l : Launch) (ns : Nat) : so_C l (sf_layW ns) yL_cell cL_cell 2 (some .int) (sf_rm 1 100) (fun av σ => (gL_cell ns av σ).map sf_vI) :=
  so_met (tab := tL_cell) (J := jL_cell ns) (fl := []) (cl := sf_clL) (by decide +kernel) ⟨rfl, rfl⟩ sf_RH_I (by decide +kernel) (fun _ _ _ _ _ h => absurd h List.not_mem_nil) sf_clL_ok
    (so_JO_nil)
    (fun Wt Post hs hm => rL_cell hs hm)
-- ===== StreamFuserLaw.up(II)I =====
abbrev tL_up : List (Nat × sf_E) := [(0, (.iload_n 0, 1, 0, .null, [], [])), (1, (.ldc 8, 3, 0, .int (2147483647), [], [])), (3, (.iand, 4, 0, .null, [], [])), (4, (.iload_n 1, 5, 0, .null, [], [])), (5, (.irem, 6, 0, .null, [], [])), (6, (.ireturn, 7, 0, .null, [], []))]
noncomputable abbrev jL_up (ns : Nat) : List (Nat × sf_J (Int32 × sf_S)) := []
noncomputable def dL_up (ns : Nat) (x0 : Int32) (x1 : Int32) (σ : sf_S) : Option (Int32 × sf_S) :=
  let v1 := (x0 &&& (2147483647 : Int32))
  if x1 = 0 then
    none
  else
    some ((v1 - v1 / x1 * x1), σ)
noncomputable abbrev gL_up (ns : Nat) (av : List Value) (σ : sf_S) : Option (Int32 × sf_S) := match av with
  | [.int x0, .int x1] => dL_up ns x0 x1 σ
  | _ => none
set_option maxRecDepth 100000 in
set_option maxHeartbeats 4000000 in
theorem rL_up {Wt : Nat → sf_L → List Value → sf_S → Prop} {Post : (Int32 × sf_S) → Prop} {ns : Nat} (hs : sf_Snd Wt (sf_layW ns) sf_hI (jL_up ns) tL_up Post) (hm : sf_mono Wt) : ∀ av σ u, gL_up ns av σ = some u → Post u → (∀ ad, (lg_sl (av.map (sf_v ad))).length ≤ 2) ∧ Wt 0 (sf_ent 0 av) [] σ := by
  intro av σ u h hp
  unfold gL_up at h
  split at h
  · rename_i x0 x1
    refine ⟨fun ad => Nat.le_of_ble_eq_true rfl, ?_⟩
    exact sf_run_ok hs sf_sm_nil 11 0 _ _ σ u h hp
  · cases h
theorem kL_up (l : Launch) (ns : Nat) : so_C l (sf_layW ns) yL_up cL_up 2 (some .int) (sf_rm 1 100) (fun av σ => (gL_up ns av σ).map sf_vI) :=
  so_met (tab := tL_up) (J := jL_up ns) (fl := []) (cl := sf_clL) (by decide +kernel) ⟨rfl, rfl⟩ sf_RH_I (by decide +kernel) (fun _ _ _ _ _ h => absurd h List.not_mem_nil) sf_clL_ok
    (so_JO_nil)
    (fun Wt Post hs hm => rL_up hs hm)
-- ===== StreamFuserLaw.types(LStreamFuser;II)I =====
abbrev tL_types : List (Nat × sf_E) := [(0, (.aload_n 0, 1, 0, .null, [], [])), (1, (.iload_n 1, 2, 0, .null, [], [])), (2, (.invokevirtual 9, 5, 0, .null, [], [])), (5, (.ifCond .le 7, 8, 12, .null, [], [])), (8, (.iconst 1, 9, 0, .int (1), [], [])), (9, (.goto 5, 12, 14, .null, [], [])), (12, (.bipush (-100), 14, 0, .int (-100), [], [])), (14, (.istore_n 3, 15, 0, .null, [], [])), (15, (.iload_n 2, 16, 0, .null, [], [])), (16, (.bipush 9, 18, 0, .int (9), [], [])), (18, (.invokestatic 15, 21, 0, .null, [], [])), (21, (.istore 4, 23, 0, .null, [], [])), (23, (.iload_n 1, 24, 0, .null, [], [])), (24, (.bipush 63, 26, 0, .int (63), [], [])), (26, (.if_icmp .eq 9, 29, 35, .null, [], [])), (29, (.iload_n 1, 30, 0, .null, [], [])), (30, (.bipush 119, 32, 0, .int (119), [], [])), (32, (.if_icmp .ne 29, 35, 61, .null, [], [])), (35, (.iload_n 3, 36, 0, .null, [], [])), (36, (.aload_n 0, 37, 0, .null, [], [])), (37, (.bipush 60, 39, 0, .int (60), [], [])), (39, (.iload_n 2, 40, 0, .null, [], [])), (40, (.iconst 4, 41, 0, .int (4), [], [])), (41, (.ishr, 42, 0, .null, [], [])), (42, (.iconst 3, 43, 0, .int (3), [], [])), (43, (.invokestatic 15, 46, 0, .null, [], [])), (46, (.iadd, 47, 0, .null, [], [])), (47, (.invokevirtual 9, 50, 0, .null, [], [])), (50, (.ifCond .le 7, 53, 57, .null, [], [])), (53, (.iconst 1, 54, 0, .int (1), [], [])), (54, (.goto 5, 57, 59, .null, [], [])), (57, (.bipush (-100), 59, 0, .int (-100), [], [])), (59, (.iadd, 60, 0, .null, [], [])), (60, (.istore_n 3, 61, 0, .null, [], [])), (61, (.iload_n 1, 62, 0, .null, [], [])), (62, (.bipush 122, 64, 0, .int (122), [], [])), (64, (.if_icmp .ne 52, 67, 116, .null, [], [])), (67, (.iload_n 3, 68, 0, .null, [], [])), (68, (.aload_n 0, 69, 0, .null, [], [])), (69, (.iload_n 2, 70, 0, .null, [], [])), (70, (.iconst 4, 71, 0, .int (4), [], [])), (71, (.ishr, 72, 0, .null, [], [])), (72, (.iconst 3, 73, 0, .int (3), [], [])), (73, (.invokestatic 15, 76, 0, .null, [], [])), (76, (.ifCond .ne 8, 79, 84, .null, [], [])), (79, (.bipush 43, 81, 0, .int (43), [], [])), (81, (.goto 21, 84, 102, .null, [], [])), (84, (.iload_n 2, 85, 0, .null, [], [])), (85, (.iconst 4, 86, 0, .int (4), [], [])), (86, (.ishr, 87, 0, .null, [], [])), (87, (.iconst 3, 88, 0, .int (3), [], [])), (88, (.invokestatic 15, 91, 0, .null, [], [])), (91, (.iconst 1, 92, 0, .int (1), [], [])), (92, (.if_icmp .ne 8, 95, 100, .null, [], [])), (95, (.bipush 42, 97, 0, .int (42), [], [])), (97, (.goto 5, 100, 102, .null, [], [])), (100, (.bipush 60, 102, 0, .int (60), [], [])), (102, (.invokevirtual 9, 105, 0, .null, [], [])), (105, (.ifCond .le 7, 108, 112, .null, [], [])), (108, (.iconst 1, 109, 0, .int (1), [], [])), (109, (.goto 5, 112, 114, .null, [], [])), (112, (.bipush (-100), 114, 0, .int (-100), [], [])), (114, (.iadd, 115, 0, .null, [], [])), (115, (.istore_n 3, 116, 0, .null, [], [])), (116, (.iload_n 1, 117, 0, .null, [], [])), (117, (.bipush 108, 119, 0, .int (108), [], [])), (119, (.if_icmp .ne 24, 122, 143, .null, [], [])), (122, (.iload_n 3, 123, 0, .null, [], [])), (123, (.aload_n 0, 124, 0, .null, [], [])), (124, (.bipush 48, 126, 0, .int (48), [], [])), (126, (.iload 4, 128, 0, .null, [], [])), (128, (.iadd, 129, 0, .null, [], [])), (129, (.invokevirtual 9, 132, 0, .null, [], [])), (132, (.ifCond .le 7, 135, 139, .null, [], [])), (135, (.iconst 1, 136, 0, .int (1), [], [])), (136, (.goto 5, 139, 141, .null, [], [])), (139, (.bipush (-100), 141, 0, .int (-100), [], [])), (141, (.iadd, 142, 0, .null, [], [])), (142, (.ireturn, 143, 0, .null, [], [])), (143, (.iload_n 1, 144, 0, .null, [], [])), (144, (.bipush 115, 146, 0, .int (115), [], [])), (146, (.if_icmp .ne 27, 149, 173, .null, [], [])), (149, (.iload_n 3, 150, 0, .null, [], [])), (150, (.aload_n 0, 151, 0, .null, [], [])), (151, (.bipush 48, 153, 0, .int (48), [], [])), (153, (.iload_n 2, 154, 0, .null, [], [])), (154, (.iconst 4, 155, 0, .int (4), [], [])), (155, (.invokestatic 15, 158, 0, .null, [], [])), (158, (.iadd, 159, 0, .null, [], [])), (159, (.invokevirtual 9, 162, 0, .null, [], [])), (162, (.ifCond .le 7, 165, 169, .null, [], [])), (165, (.iconst 1, 166, 0, .int (1), [], [])), (166, (.goto 5, 169, 171, .null, [], [])), (169, (.bipush (-100), 171, 0, .int (-100), [], [])), (171, (.iadd, 172, 0, .null, [], [])), (172, (.ireturn, 173, 0, .null, [], [])), (173, (.iload_n 1, 174, 0, .null, [], [])), (174, (.bipush 99, 176, 0, .int (99), [], [])), (176, (.if_icmp .eq 27, 179, 203, .null, [], [])), (179, (.iload_n 1, 180, 0, .null, [], [])), (180, (.bipush 122, 182, 0, .int (122), [], [])), (182, (.if_icmp .eq 21, 185, 203, .null, [], [])), (185, (.iload_n 1, 186, 0, .null, [], [])), (186, (.bipush 120, 188, 0, .int (120), [], [])), (188, (.if_icmp .eq 15, 191, 203, .null, [], [])), (191, (.iload_n 1, 192, 0, .null, [], [])), (192, (.bipush 117, 194, 0, .int (117), [], [])), (194, (.if_icmp .eq 9, 197, 203, .null, [], [])), (197, (.iload_n 1, 198, 0, .null, [], [])), (198, (.bipush 118, 200, 0, .int (118), [], [])), (200, (.if_icmp .ne 7, 203, 207, .null, [], [])), (203, (.iconst 0, 204, 0, .int (0), [], [])), (204, (.goto 20, 207, 224, .null, [], [])), (207, (.iload_n 1, 208, 0, .null, [], [])), (208, (.bipush 114, 210, 0, .int (114), [], [])), (210, (.if_icmp .eq 9, 213, 219, .null, [], [])), (213, (.iload_n 1, 214, 0, .null, [], [])), (214, (.bipush 105, 216, 0, .int (105), [], [])), (216, (.if_icmp .ne 7, 219, 223, .null, [], [])), (219, (.iconst 2, 220, 0, .int (2), [], [])), (220, (.goto 4, 223, 224, .null, [], [])), (223, (.iconst 1, 224, 0, .int (1), [], [])), (224, (.istore 5, 226, 0, .null, [], [])), (226, (.iconst 0, 227, 0, .int (0), [], [])), (227, (.istore 6, 229, 0, .null, [], [])), (229, (.iload 6, 231, 0, .null, [], [])), (231, (.iload 5, 233, 0, .null, [], [])), (233, (.if_icmp .ge 171, 236, 404, .null, [], [])), (236, (.iload_n 1, 237, 0, .null, [], [])), (237, (.bipush 37, 239, 0, .int (37), [], [])), (239, (.if_icmp .eq 9, 242, 248, .null, [], [])), (242, (.iload_n 1, 243, 0, .null, [], [])), (243, (.bipush 107, 245, 0, .int (107), [], [])), (245, (.if_icmp .ne 16, 248, 261, .null, [], [])), (248, (.iconst 1, 249, 0, .int (1), [], [])), (249, (.iload_n 2, 250, 0, .null, [], [])), (250, (.bipush 7, 252, 0, .int (7), [], [])), (252, (.ishr, 253, 0, .null, [], [])), (253, (.iconst 5, 254, 0, .int (5), [], [])), (254, (.invokestatic 15, 257, 0, .null, [], [])), (257, (.iadd, 258, 0, .null, [], [])), (258, (.goto 29, 261, 287, .null, [], [])), (261, (.iload 6, 263, 0, .null, [], [])), (263, (.ifCond .ne 15, 266, 278, .null, [], [])), (266, (.iload_n 2, 267, 0, .null, [], [])), (267, (.bipush 7, 269, 0, .int (7), [], [])), (269, (.ishr, 270, 0, .null, [], [])), (270, (.bipush 7, 272, 0, .int (7), [], [])), (272, (.invokestatic 15, 275, 0, .null, [], [])), (275, (.goto 12, 278, 287, .null, [], [])), (278, (.iload_n 2, 279, 0, .null, [], [])), (279, (.bipush 11, 281, 0, .int (11), [], [])), (281, (.ishr, 282, 0, .null, [], [])), (282, (.bipush 10, 284, 0, .int (10), [], [])), (284, (.invokestatic 15, 287, 0, .null, [], [])), (287, (.istore 7, 289, 0, .null, [], [])), (289, (.iload_n 1, 290, 0, .null, [], [])), (290, (.bipush 37, 292, 0, .int (37), [], [])), (292, (.if_icmp .eq 46, 295, 338, .null, [], [])), (295, (.iload_n 1, 296, 0, .null, [], [])), (296, (.bipush 107, 298, 0, .int (107), [], [])), (298, (.if_icmp .eq 40, 301, 338, .null, [], [])), (301, (.iload_n 1, 302, 0, .null, [], [])), (302, (.bipush 116, 304, 0, .int (116), [], [])), (304, (.if_icmp .eq 34, 307, 338, .null, [], [])), (307, (.iload_n 1, 308, 0, .null, [], [])), (308, (.bipush 100, 310, 0, .int (100), [], [])), (310, (.if_icmp .eq 28, 313, 338, .null, [], [])), (313, (.iload 7, 315, 0, .null, [], [])), (315, (.ifCond .le 23, 318, 338, .null, [], [])), (318, (.iload 7, 320, 0, .null, [], [])), (320, (.iconst 4, 321, 0, .int (4), [], [])), (321, (.if_icmp .ge 17, 324, 338, .null, [], [])), (324, (.iload_n 2, 325, 0, .null, [], [])), (325, (.bipush 15, 327, 0, .int (15), [], [])), (327, (.ishr, 328, 0, .null, [], [])), (328, (.iconst 1, 329, 0, .int (1), [], [])), (329, (.iand, 330, 0, .null, [], [])), (330, (.iconst 1, 331, 0, .int (1), [], [])), (331, (.if_icmp .ne 7, 334, 338, .null, [], [])), (334, (.iconst 1, 335, 0, .int (1), [], [])), (335, (.goto 4, 338, 339, .null, [], [])), (338, (.iconst 0, 339, 0, .int (0), [], [])), (339, (.istore 8, 341, 0, .null, [], [])), (341, (.iload_n 3, 342, 0, .null, [], [])), (342, (.iload 8, 344, 0, .null, [], [])), (344, (.ifCond .ne 7, 347, 351, .null, [], [])), (347, (.iconst 0, 348, 0, .int (0), [], [])), (348, (.goto 18, 351, 366, .null, [], [])), (351, (.aload_n 0, 352, 0, .null, [], [])), (352, (.bipush 45, 354, 0, .int (45), [], [])), (354, (.invokevirtual 9, 357, 0, .null, [], [])), (357, (.ifCond .le 7, 360, 364, .null, [], [])), (360, (.iconst 1, 361, 0, .int (1), [], [])), (361, (.goto 5, 364, 366, .null, [], [])), (364, (.bipush (-100), 366, 0, .int (-100), [], [])), (366, (.iadd, 367, 0, .null, [], [])), (367, (.istore_n 3, 368, 0, .null, [], [])), (368, (.iload_n 3, 369, 0, .null, [], [])), (369, (.aload_n 0, 370, 0, .null, [], [])), (370, (.bipush 48, 372, 0, .int (48), [], [])), (372, (.iload 7, 374, 0, .null, [], [])), (374, (.iadd, 375, 0, .null, [], [])), (375, (.invokevirtual 9, 378, 0, .null, [], [])), (378, (.ifCond .le 16, 381, 394, .null, [], [])), (381, (.aload_n 0, 382, 0, .null, [], [])), (382, (.bipush 59, 384, 0, .int (59), [], [])), (384, (.invokevirtual 9, 387, 0, .null, [], [])), (387, (.ifCond .le 7, 390, 394, .null, [], [])), (390, (.iconst 2, 391, 0, .int (2), [], [])), (391, (.goto 5, 394, 396, .null, [], [])), (394, (.bipush (-100), 396, 0, .int (-100), [], [])), (396, (.iadd, 397, 0, .null, [], [])), (397, (.istore_n 3, 398, 0, .null, [], [])), (398, (.iinc 6 1, 401, 0, .int (1), [], [])), (401, (.goto (-172), 404, 229, .null, [], [])), (404, (.iload_n 3, 405, 0, .null, [], [])), (405, (.ireturn, 406, 0, .null, [], []))]
noncomputable abbrev jL_types (ns : Nat) : List (Nat × sf_J (Int32 × sf_S)) := [(2, sf_jI (sf_layW ns) [9] 2 gW_type), (18, sf_jI (sf_layW ns) [] 2 (gL_up ns)), (43, sf_jI (sf_layW ns) [] 2 (gL_up ns)), (47, sf_jI (sf_layW ns) [9] 2 gW_type), (73, sf_jI (sf_layW ns) [] 2 (gL_up ns)), (88, sf_jI (sf_layW ns) [] 2 (gL_up ns)), (102, sf_jI (sf_layW ns) [9] 2 gW_type), (129, sf_jI (sf_layW ns) [9] 2 gW_type), (155, sf_jI (sf_layW ns) [] 2 (gL_up ns)), (159, sf_jI (sf_layW ns) [9] 2 gW_type), (254, sf_jI (sf_layW ns) [] 2 (gL_up ns)), (272, sf_jI (sf_layW ns) [] 2 (gL_up ns)), (284, sf_jI (sf_layW ns) [] 2 (gL_up ns)), (354, sf_jI (sf_layW ns) [9] 2 gW_type), (375, sf_jI (sf_layW ns) [9] 2 gW_type), (384, sf_jI (sf_layW ns) [9] 2 gW_type)]
abbrev wL_types_366 {ρ : Type} (r0 : Nat) (k : Int32 → Int32 → Int32 → Int32 → Int32 → Int32 → Int32 → sf_S → Option ρ) : sf_M ρ := fun L st σ => sf_lda L 0 fun a0 => sf_eq a0 r0 (sf_ldi L 1 fun x1 => sf_ldi L 2 fun x2 => sf_ldi L 5 fun x5 => sf_ldi L 6 fun x6 => sf_ldi L 7 fun x7 => sf_i1 st fun y0 st => sf_i1 st fun y1 st => sf_nil st (k x1 x2 x5 x6 x7 y0 y1 σ))
theorem wL_types_366_ok {ρ : Type} {Wt : Nat → sf_L → List Value → sf_S → Prop} {Post : ρ → Prop} (hm : sf_mono Wt) {r0 : Nat} {k : Int32 → Int32 → Int32 → Int32 → Int32 → Int32 → Int32 → sf_S → Option ρ} (h : ∀ (x1 : Int32) (x2 : Int32) (x5 : Int32) (x6 : Int32) (x7 : Int32) (y0 : Int32) (y1 : Int32) (σ : sf_S) (u : ρ), k x1 x2 x5 x6 x7 y0 y1 σ = some u → Post u → Wt 366 [(0, some (.ref r0)), (1, some (.int x1)), (2, some (.int x2)), (5, some (.int x5)), (6, some (.int x6)), (7, some (.int x7))] [.int y0, .int y1] σ) : sf_CK Wt Post 366 (wL_types_366 r0 k) := by
  intro L st σ u hf hp
  unfold wL_types_366 at hf
  have hf0 := hf
  obtain ⟨a0, e0, hf1⟩ := sf_lda_inv hf0
  obtain ⟨rfl, hf2⟩ := sf_eq_inv hf1
  obtain ⟨x1, e1, hf3⟩ := sf_ldi_inv hf2
  obtain ⟨x2, e2, hf4⟩ := sf_ldi_inv hf3
  obtain ⟨x5, e5, hf5⟩ := sf_ldi_inv hf4
  obtain ⟨x6, e6, hf6⟩ := sf_ldi_inv hf5
  obtain ⟨x7, e7, hf7⟩ := sf_ldi_inv hf6
  obtain ⟨y0, st, rfl, hf8⟩ := sf_i1_inv hf7
  obtain ⟨y1, st, rfl, hf9⟩ := sf_i1_inv hf8
  obtain ⟨rfl, hz⟩ := sf_nil_inv hf9
  exact hm _ [(0, some (.ref _)), (1, some (.int x1)), (2, some (.int x2)), (5, some (.int x5)), (6, some (.int x6)), (7, some (.int x7))] _ _ _ (sf_le_ok (And.intro e0 (And.intro e1 (And.intro e2 (And.intro e5 (And.intro e6 (And.intro e7 trivial))))))) (h _ _ _ _ _ _ _ _ _ hz hp)
abbrev wL_types_339 {ρ : Type} (r0 : Nat) (k : Int32 → Int32 → Int32 → Int32 → Int32 → Int32 → Int32 → sf_S → Option ρ) : sf_M ρ := fun L st σ => sf_lda L 0 fun a0 => sf_eq a0 r0 (sf_ldi L 1 fun x1 => sf_ldi L 2 fun x2 => sf_ldi L 3 fun x3 => sf_ldi L 5 fun x5 => sf_ldi L 6 fun x6 => sf_ldi L 7 fun x7 => sf_i1 st fun y0 st => sf_nil st (k x1 x2 x3 x5 x6 x7 y0 σ))
theorem wL_types_339_ok {ρ : Type} {Wt : Nat → sf_L → List Value → sf_S → Prop} {Post : ρ → Prop} (hm : sf_mono Wt) {r0 : Nat} {k : Int32 → Int32 → Int32 → Int32 → Int32 → Int32 → Int32 → sf_S → Option ρ} (h : ∀ (x1 : Int32) (x2 : Int32) (x3 : Int32) (x5 : Int32) (x6 : Int32) (x7 : Int32) (y0 : Int32) (σ : sf_S) (u : ρ), k x1 x2 x3 x5 x6 x7 y0 σ = some u → Post u → Wt 339 [(0, some (.ref r0)), (1, some (.int x1)), (2, some (.int x2)), (3, some (.int x3)), (5, some (.int x5)), (6, some (.int x6)), (7, some (.int x7))] [.int y0] σ) : sf_CK Wt Post 339 (wL_types_339 r0 k) := by
  intro L st σ u hf hp
  unfold wL_types_339 at hf
  have hf0 := hf
  obtain ⟨a0, e0, hf1⟩ := sf_lda_inv hf0
  obtain ⟨rfl, hf2⟩ := sf_eq_inv hf1
  obtain ⟨x1, e1, hf3⟩ := sf_ldi_inv hf2
  obtain ⟨x2, e2, hf4⟩ := sf_ldi_inv hf3
  obtain ⟨x3, e3, hf5⟩ := sf_ldi_inv hf4
  obtain ⟨x5, e5, hf6⟩ := sf_ldi_inv hf5
  obtain ⟨x6, e6, hf7⟩ := sf_ldi_inv hf6
  obtain ⟨x7, e7, hf8⟩ := sf_ldi_inv hf7
  obtain ⟨y0, st, rfl, hf9⟩ := sf_i1_inv hf8
  obtain ⟨rfl, hz⟩ := sf_nil_inv hf9
  exact hm _ [(0, some (.ref _)), (1, some (.int x1)), (2, some (.int x2)), (3, some (.int x3)), (5, some (.int x5)), (6, some (.int x6)), (7, some (.int x7))] _ _ _ (sf_le_ok (And.intro e0 (And.intro e1 (And.intro e2 (And.intro e3 (And.intro e5 (And.intro e6 (And.intro e7 trivial)))))))) (h _ _ _ _ _ _ _ _ _ hz hp)
abbrev wL_types_287 {ρ : Type} (r0 : Nat) (k : Int32 → Int32 → Int32 → Int32 → Int32 → Int32 → sf_S → Option ρ) : sf_M ρ := fun L st σ => sf_lda L 0 fun a0 => sf_eq a0 r0 (sf_ldi L 1 fun x1 => sf_ldi L 2 fun x2 => sf_ldi L 3 fun x3 => sf_ldi L 5 fun x5 => sf_ldi L 6 fun x6 => sf_i1 st fun y0 st => sf_nil st (k x1 x2 x3 x5 x6 y0 σ))
theorem wL_types_287_ok {ρ : Type} {Wt : Nat → sf_L → List Value → sf_S → Prop} {Post : ρ → Prop} (hm : sf_mono Wt) {r0 : Nat} {k : Int32 → Int32 → Int32 → Int32 → Int32 → Int32 → sf_S → Option ρ} (h : ∀ (x1 : Int32) (x2 : Int32) (x3 : Int32) (x5 : Int32) (x6 : Int32) (y0 : Int32) (σ : sf_S) (u : ρ), k x1 x2 x3 x5 x6 y0 σ = some u → Post u → Wt 287 [(0, some (.ref r0)), (1, some (.int x1)), (2, some (.int x2)), (3, some (.int x3)), (5, some (.int x5)), (6, some (.int x6))] [.int y0] σ) : sf_CK Wt Post 287 (wL_types_287 r0 k) := by
  intro L st σ u hf hp
  unfold wL_types_287 at hf
  have hf0 := hf
  obtain ⟨a0, e0, hf1⟩ := sf_lda_inv hf0
  obtain ⟨rfl, hf2⟩ := sf_eq_inv hf1
  obtain ⟨x1, e1, hf3⟩ := sf_ldi_inv hf2
  obtain ⟨x2, e2, hf4⟩ := sf_ldi_inv hf3
  obtain ⟨x3, e3, hf5⟩ := sf_ldi_inv hf4
  obtain ⟨x5, e5, hf6⟩ := sf_ldi_inv hf5
  obtain ⟨x6, e6, hf7⟩ := sf_ldi_inv hf6
  obtain ⟨y0, st, rfl, hf8⟩ := sf_i1_inv hf7
  obtain ⟨rfl, hz⟩ := sf_nil_inv hf8
  exact hm _ [(0, some (.ref _)), (1, some (.int x1)), (2, some (.int x2)), (3, some (.int x3)), (5, some (.int x5)), (6, some (.int x6))] _ _ _ (sf_le_ok (And.intro e0 (And.intro e1 (And.intro e2 (And.intro e3 (And.intro e5 (And.intro e6 trivial))))))) (h _ _ _ _ _ _ _ _ hz hp)
abbrev wL_types_229 {ρ : Type} (r0 : Nat) (k : Int32 → Int32 → Int32 → Int32 → Int32 → sf_S → Option ρ) : sf_M ρ := fun L st σ => sf_lda L 0 fun a0 => sf_eq a0 r0 (sf_ldi L 1 fun x1 => sf_ldi L 2 fun x2 => sf_ldi L 3 fun x3 => sf_ldi L 5 fun x5 => sf_ldi L 6 fun x6 => sf_nil st (k x1 x2 x3 x5 x6 σ))
theorem wL_types_229_ok {ρ : Type} {Wt : Nat → sf_L → List Value → sf_S → Prop} {Post : ρ → Prop} (hm : sf_mono Wt) {r0 : Nat} {k : Int32 → Int32 → Int32 → Int32 → Int32 → sf_S → Option ρ} (h : ∀ (x1 : Int32) (x2 : Int32) (x3 : Int32) (x5 : Int32) (x6 : Int32) (σ : sf_S) (u : ρ), k x1 x2 x3 x5 x6 σ = some u → Post u → Wt 229 [(0, some (.ref r0)), (1, some (.int x1)), (2, some (.int x2)), (3, some (.int x3)), (5, some (.int x5)), (6, some (.int x6))] [] σ) : sf_CK Wt Post 229 (wL_types_229 r0 k) := by
  intro L st σ u hf hp
  unfold wL_types_229 at hf
  have hf0 := hf
  obtain ⟨a0, e0, hf1⟩ := sf_lda_inv hf0
  obtain ⟨rfl, hf2⟩ := sf_eq_inv hf1
  obtain ⟨x1, e1, hf3⟩ := sf_ldi_inv hf2
  obtain ⟨x2, e2, hf4⟩ := sf_ldi_inv hf3
  obtain ⟨x3, e3, hf5⟩ := sf_ldi_inv hf4
  obtain ⟨x5, e5, hf6⟩ := sf_ldi_inv hf5
  obtain ⟨x6, e6, hf7⟩ := sf_ldi_inv hf6
  obtain ⟨rfl, hz⟩ := sf_nil_inv hf7
  exact hm _ [(0, some (.ref _)), (1, some (.int x1)), (2, some (.int x2)), (3, some (.int x3)), (5, some (.int x5)), (6, some (.int x6))] _ _ _ (sf_le_ok (And.intro e0 (And.intro e1 (And.intro e2 (And.intro e3 (And.intro e5 (And.intro e6 trivial))))))) (h _ _ _ _ _ _ _ hz hp)
abbrev wL_types_116 {ρ : Type} (r0 : Nat) (k : Int32 → Int32 → Int32 → Int32 → sf_S → Option ρ) : sf_M ρ := fun L st σ => sf_lda L 0 fun a0 => sf_eq a0 r0 (sf_ldi L 1 fun x1 => sf_ldi L 2 fun x2 => sf_ldi L 3 fun x3 => sf_ldi L 4 fun x4 => sf_nil st (k x1 x2 x3 x4 σ))
theorem wL_types_116_ok {ρ : Type} {Wt : Nat → sf_L → List Value → sf_S → Prop} {Post : ρ → Prop} (hm : sf_mono Wt) {r0 : Nat} {k : Int32 → Int32 → Int32 → Int32 → sf_S → Option ρ} (h : ∀ (x1 : Int32) (x2 : Int32) (x3 : Int32) (x4 : Int32) (σ : sf_S) (u : ρ), k x1 x2 x3 x4 σ = some u → Post u → Wt 116 [(0, some (.ref r0)), (1, some (.int x1)), (2, some (.int x2)), (3, some (.int x3)), (4, some (.int x4))] [] σ) : sf_CK Wt Post 116 (wL_types_116 r0 k) := by
  intro L st σ u hf hp
  unfold wL_types_116 at hf
  have hf0 := hf
  obtain ⟨a0, e0, hf1⟩ := sf_lda_inv hf0
  obtain ⟨rfl, hf2⟩ := sf_eq_inv hf1
  obtain ⟨x1, e1, hf3⟩ := sf_ldi_inv hf2
  obtain ⟨x2, e2, hf4⟩ := sf_ldi_inv hf3
  obtain ⟨x3, e3, hf5⟩ := sf_ldi_inv hf4
  obtain ⟨x4, e4, hf6⟩ := sf_ldi_inv hf5
  obtain ⟨rfl, hz⟩ := sf_nil_inv hf6
  exact hm _ [(0, some (.ref _)), (1, some (.int x1)), (2, some (.int x2)), (3, some (.int x3)), (4, some (.int x4))] _ _ _ (sf_le_ok (And.intro e0 (And.intro e1 (And.intro e2 (And.intro e3 (And.intro e4 trivial)))))) (h _ _ _ _ _ _ hz hp)
abbrev wL_types_102 {ρ : Type} (r0 : Nat) (k : Int32 → Int32 → Int32 → Int32 → Int32 → sf_S → Option ρ) : sf_M ρ := fun L st σ => sf_lda L 0 fun a0 => sf_eq a0 r0 (sf_ldi L 1 fun x1 => sf_ldi L 2 fun x2 => sf_ldi L 4 fun x4 => sf_i1 st fun y0 st => sf_a1 st fun b1 st => sf_eq b1 r0 (sf_i1 st fun y2 st => sf_nil st (k x1 x2 x4 y0 y2 σ)))
theorem wL_types_102_ok {ρ : Type} {Wt : Nat → sf_L → List Value → sf_S → Prop} {Post : ρ → Prop} (hm : sf_mono Wt) {r0 : Nat} {k : Int32 → Int32 → Int32 → Int32 → Int32 → sf_S → Option ρ} (h : ∀ (x1 : Int32) (x2 : Int32) (x4 : Int32) (y0 : Int32) (y2 : Int32) (σ : sf_S) (u : ρ), k x1 x2 x4 y0 y2 σ = some u → Post u → Wt 102 [(0, some (.ref r0)), (1, some (.int x1)), (2, some (.int x2)), (4, some (.int x4))] [.int y0, .ref r0, .int y2] σ) : sf_CK Wt Post 102 (wL_types_102 r0 k) := by
  intro L st σ u hf hp
  unfold wL_types_102 at hf
  have hf0 := hf
  obtain ⟨a0, e0, hf1⟩ := sf_lda_inv hf0
  obtain ⟨rfl, hf2⟩ := sf_eq_inv hf1
  obtain ⟨x1, e1, hf3⟩ := sf_ldi_inv hf2
  obtain ⟨x2, e2, hf4⟩ := sf_ldi_inv hf3
  obtain ⟨x4, e4, hf5⟩ := sf_ldi_inv hf4
  obtain ⟨y0, st, rfl, hf6⟩ := sf_i1_inv hf5
  obtain ⟨b1, st, rfl, hf7⟩ := sf_a1_inv hf6
  obtain ⟨rfl, hf8⟩ := sf_eq_inv hf7
  obtain ⟨y2, st, rfl, hf9⟩ := sf_i1_inv hf8
  obtain ⟨rfl, hz⟩ := sf_nil_inv hf9
  exact hm _ [(0, some (.ref _)), (1, some (.int x1)), (2, some (.int x2)), (4, some (.int x4))] _ _ _ (sf_le_ok (And.intro e0 (And.intro e1 (And.intro e2 (And.intro e4 trivial))))) (h _ _ _ _ _ _ _ hz hp)
abbrev wL_types_61 {ρ : Type} (r0 : Nat) (k : Int32 → Int32 → Int32 → Int32 → sf_S → Option ρ) : sf_M ρ := fun L st σ => sf_lda L 0 fun a0 => sf_eq a0 r0 (sf_ldi L 1 fun x1 => sf_ldi L 2 fun x2 => sf_ldi L 3 fun x3 => sf_ldi L 4 fun x4 => sf_nil st (k x1 x2 x3 x4 σ))
theorem wL_types_61_ok {ρ : Type} {Wt : Nat → sf_L → List Value → sf_S → Prop} {Post : ρ → Prop} (hm : sf_mono Wt) {r0 : Nat} {k : Int32 → Int32 → Int32 → Int32 → sf_S → Option ρ} (h : ∀ (x1 : Int32) (x2 : Int32) (x3 : Int32) (x4 : Int32) (σ : sf_S) (u : ρ), k x1 x2 x3 x4 σ = some u → Post u → Wt 61 [(0, some (.ref r0)), (1, some (.int x1)), (2, some (.int x2)), (3, some (.int x3)), (4, some (.int x4))] [] σ) : sf_CK Wt Post 61 (wL_types_61 r0 k) := by
  intro L st σ u hf hp
  unfold wL_types_61 at hf
  have hf0 := hf
  obtain ⟨a0, e0, hf1⟩ := sf_lda_inv hf0
  obtain ⟨rfl, hf2⟩ := sf_eq_inv hf1
  obtain ⟨x1, e1, hf3⟩ := sf_ldi_inv hf2
  obtain ⟨x2, e2, hf4⟩ := sf_ldi_inv hf3
  obtain ⟨x3, e3, hf5⟩ := sf_ldi_inv hf4
  obtain ⟨x4, e4, hf6⟩ := sf_ldi_inv hf5
  obtain ⟨rfl, hz⟩ := sf_nil_inv hf6
  exact hm _ [(0, some (.ref _)), (1, some (.int x1)), (2, some (.int x2)), (3, some (.int x3)), (4, some (.int x4))] _ _ _ (sf_le_ok (And.intro e0 (And.intro e1 (And.intro e2 (And.intro e3 (And.intro e4 trivial)))))) (h _ _ _ _ _ _ hz hp)
abbrev wL_types_35 {ρ : Type} (r0 : Nat) (k : Int32 → Int32 → Int32 → Int32 → sf_S → Option ρ) : sf_M ρ := fun L st σ => sf_lda L 0 fun a0 => sf_eq a0 r0 (sf_ldi L 1 fun x1 => sf_ldi L 2 fun x2 => sf_ldi L 3 fun x3 => sf_ldi L 4 fun x4 => sf_nil st (k x1 x2 x3 x4 σ))
theorem wL_types_35_ok {ρ : Type} {Wt : Nat → sf_L → List Value → sf_S → Prop} {Post : ρ → Prop} (hm : sf_mono Wt) {r0 : Nat} {k : Int32 → Int32 → Int32 → Int32 → sf_S → Option ρ} (h : ∀ (x1 : Int32) (x2 : Int32) (x3 : Int32) (x4 : Int32) (σ : sf_S) (u : ρ), k x1 x2 x3 x4 σ = some u → Post u → Wt 35 [(0, some (.ref r0)), (1, some (.int x1)), (2, some (.int x2)), (3, some (.int x3)), (4, some (.int x4))] [] σ) : sf_CK Wt Post 35 (wL_types_35 r0 k) := by
  intro L st σ u hf hp
  unfold wL_types_35 at hf
  have hf0 := hf
  obtain ⟨a0, e0, hf1⟩ := sf_lda_inv hf0
  obtain ⟨rfl, hf2⟩ := sf_eq_inv hf1
  obtain ⟨x1, e1, hf3⟩ := sf_ldi_inv hf2
  obtain ⟨x2, e2, hf4⟩ := sf_ldi_inv hf3
  obtain ⟨x3, e3, hf5⟩ := sf_ldi_inv hf4
  obtain ⟨x4, e4, hf6⟩ := sf_ldi_inv hf5
  obtain ⟨rfl, hz⟩ := sf_nil_inv hf6
  exact hm _ [(0, some (.ref _)), (1, some (.int x1)), (2, some (.int x2)), (3, some (.int x3)), (4, some (.int x4))] _ _ _ (sf_le_ok (And.intro e0 (And.intro e1 (And.intro e2 (And.intro e3 (And.intro e4 trivial)))))) (h _ _ _ _ _ _ hz hp)
abbrev wL_types_14 {ρ : Type} (r0 : Nat) (k : Int32 → Int32 → Int32 → sf_S → Option ρ) : sf_M ρ := fun L st σ => sf_lda L 0 fun a0 => sf_eq a0 r0 (sf_ldi L 1 fun x1 => sf_ldi L 2 fun x2 => sf_i1 st fun y0 st => sf_nil st (k x1 x2 y0 σ))
theorem wL_types_14_ok {ρ : Type} {Wt : Nat → sf_L → List Value → sf_S → Prop} {Post : ρ → Prop} (hm : sf_mono Wt) {r0 : Nat} {k : Int32 → Int32 → Int32 → sf_S → Option ρ} (h : ∀ (x1 : Int32) (x2 : Int32) (y0 : Int32) (σ : sf_S) (u : ρ), k x1 x2 y0 σ = some u → Post u → Wt 14 [(0, some (.ref r0)), (1, some (.int x1)), (2, some (.int x2))] [.int y0] σ) : sf_CK Wt Post 14 (wL_types_14 r0 k) := by
  intro L st σ u hf hp
  unfold wL_types_14 at hf
  have hf0 := hf
  obtain ⟨a0, e0, hf1⟩ := sf_lda_inv hf0
  obtain ⟨rfl, hf2⟩ := sf_eq_inv hf1
  obtain ⟨x1, e1, hf3⟩ := sf_ldi_inv hf2
  obtain ⟨x2, e2, hf4⟩ := sf_ldi_inv hf3
  obtain ⟨y0, st, rfl, hf5⟩ := sf_i1_inv hf4
  obtain ⟨rfl, hz⟩ := sf_nil_inv hf5
  exact hm _ [(0, some (.ref _)), (1, some (.int x1)), (2, some (.int x2))] _ _ _ (sf_le_ok (And.intro e0 (And.intro e1 (And.intro e2 trivial)))) (h _ _ _ _ _ hz hp)
noncomputable def dL_types_366 (ns : Nat) (r0 : Nat) (K229 : Int32 → Int32 → Int32 → Int32 → Int32 → sf_S → Option (Int32 × sf_S)) (x1 : Int32) (x2 : Int32) (x5 : Int32) (x6 : Int32) (x7 : Int32) (y0 : Int32) (y1 : Int32) (σ : sf_S) : Option (Int32 × sf_S) :=
  let v1 := (y1 + y0)
  (dW_type r0 ((48 : Int32) + x7) σ).bind fun u2 =>
  if u2.1 ≤ 0 then
    K229 x1 x2 (v1 + (-100 : Int32)) x5 (x6 + (1 : Int32)) u2.2
  else
    (dW_type r0 (59 : Int32) u2.2).bind fun u3 =>
    if u3.1 ≤ 0 then
      K229 x1 x2 (v1 + (-100 : Int32)) x5 (x6 + (1 : Int32)) u3.2
    else
      K229 x1 x2 (v1 + (2 : Int32)) x5 (x6 + (1 : Int32)) u3.2
set_option maxRecDepth 100000 in
set_option maxHeartbeats 4000000 in
theorem rL_types_366 {Wt : Nat → sf_L → List Value → sf_S → Prop} {Post : (Int32 × sf_S) → Prop} {ns : Nat} (hs : sf_Snd Wt (sf_layW ns) sf_hI (jL_types ns) tL_types Post) (hm : sf_mono Wt) {r0 : Nat} (hq : r0 = 0 ∨ r0 = 59) {K229 : Int32 → Int32 → Int32 → Int32 → Int32 → sf_S → Option (Int32 × sf_S)} (hK229 : sf_CK Wt Post 229 (wL_types_229 r0 K229)) : sf_CK Wt Post 366 (wL_types_366 r0 (dL_types_366 ns r0 K229)) := by
  refine wL_types_366_ok hm ?_
  intro x1 x2 x5 x6 x7 y0 y1 σ u h hp
  rcases hq with rfl | rfl
  · exact sf_run_ok hs (sf_sm_cons hK229 sf_sm_nil) 223 366 _ _ σ u h hp
  · exact sf_run_ok hs (sf_sm_cons hK229 sf_sm_nil) 223 366 _ _ σ u h hp
noncomputable def dL_types_339 (ns : Nat) (r0 : Nat) (K229 : Int32 → Int32 → Int32 → Int32 → Int32 → sf_S → Option (Int32 × sf_S)) (x1 : Int32) (x2 : Int32) (x3 : Int32) (x5 : Int32) (x6 : Int32) (x7 : Int32) (y0 : Int32) (σ : sf_S) : Option (Int32 × sf_S) :=
  if ¬ y0 = 0 then
    (dW_type r0 (45 : Int32) σ).bind fun u1 =>
    if u1.1 ≤ 0 then
      dL_types_366 ns r0 K229 x1 x2 x5 x6 x7 (-100 : Int32) x3 u1.2
    else
      dL_types_366 ns r0 K229 x1 x2 x5 x6 x7 (1 : Int32) x3 u1.2
  else
    dL_types_366 ns r0 K229 x1 x2 x5 x6 x7 (0 : Int32) x3 σ
set_option maxRecDepth 100000 in
set_option maxHeartbeats 4000000 in
theorem rL_types_339 {Wt : Nat → sf_L → List Value → sf_S → Prop} {Post : (Int32 × sf_S) → Prop} {ns : Nat} (hs : sf_Snd Wt (sf_layW ns) sf_hI (jL_types ns) tL_types Post) (hm : sf_mono Wt) {r0 : Nat} (hq : r0 = 0 ∨ r0 = 59) {K229 : Int32 → Int32 → Int32 → Int32 → Int32 → sf_S → Option (Int32 × sf_S)} (hK229 : sf_CK Wt Post 229 (wL_types_229 r0 K229)) : sf_CK Wt Post 339 (wL_types_339 r0 (dL_types_339 ns r0 K229)) := by
  refine wL_types_339_ok hm ?_
  intro x1 x2 x3 x5 x6 x7 y0 σ u h hp
  rcases hq with rfl | rfl
  · exact sf_run_ok hs (sf_sm_cons (rL_types_366 hs hm (Or.inl rfl) hK229) sf_sm_nil) 223 339 _ _ σ u h hp
  · exact sf_run_ok hs (sf_sm_cons (rL_types_366 hs hm (Or.inr rfl) hK229) sf_sm_nil) 223 339 _ _ σ u h hp
noncomputable def dL_types_287 (ns : Nat) (r0 : Nat) (K229 : Int32 → Int32 → Int32 → Int32 → Int32 → sf_S → Option (Int32 × sf_S)) (x1 : Int32) (x2 : Int32) (x3 : Int32) (x5 : Int32) (x6 : Int32) (y0 : Int32) (σ : sf_S) : Option (Int32 × sf_S) :=
  if x1 = (37 : Int32) then
    dL_types_339 ns r0 K229 x1 x2 x3 x5 x6 y0 (0 : Int32) σ
  else
    if x1 = (107 : Int32) then
      dL_types_339 ns r0 K229 x1 x2 x3 x5 x6 y0 (0 : Int32) σ
    else
      if x1 = (116 : Int32) then
        dL_types_339 ns r0 K229 x1 x2 x3 x5 x6 y0 (0 : Int32) σ
      else
        if x1 = (100 : Int32) then
          dL_types_339 ns r0 K229 x1 x2 x3 x5 x6 y0 (0 : Int32) σ
        else
          if y0 ≤ 0 then
            dL_types_339 ns r0 K229 x1 x2 x3 x5 x6 y0 (0 : Int32) σ
          else
            if (4 : Int32) ≤ y0 then
              dL_types_339 ns r0 K229 x1 x2 x3 x5 x6 y0 (0 : Int32) σ
            else
              if ¬ ((x2 >>> ((15 : Int32) &&& 31)) &&& (1 : Int32)) = (1 : Int32) then
                dL_types_339 ns r0 K229 x1 x2 x3 x5 x6 y0 (0 : Int32) σ
              else
                dL_types_339 ns r0 K229 x1 x2 x3 x5 x6 y0 (1 : Int32) σ
set_option maxRecDepth 100000 in
set_option maxHeartbeats 4000000 in
theorem rL_types_287 {Wt : Nat → sf_L → List Value → sf_S → Prop} {Post : (Int32 × sf_S) → Prop} {ns : Nat} (hs : sf_Snd Wt (sf_layW ns) sf_hI (jL_types ns) tL_types Post) (hm : sf_mono Wt) {r0 : Nat} (hq : r0 = 0 ∨ r0 = 59) {K229 : Int32 → Int32 → Int32 → Int32 → Int32 → sf_S → Option (Int32 × sf_S)} (hK229 : sf_CK Wt Post 229 (wL_types_229 r0 K229)) : sf_CK Wt Post 287 (wL_types_287 r0 (dL_types_287 ns r0 K229)) := by
  refine wL_types_287_ok hm ?_
  intro x1 x2 x3 x5 x6 y0 σ u h hp
  rcases hq with rfl | rfl
  · exact sf_run_ok hs (sf_sm_cons (rL_types_339 hs hm (Or.inl rfl) hK229) sf_sm_nil) 223 287 _ _ σ u h hp
  · exact sf_run_ok hs (sf_sm_cons (rL_types_339 hs hm (Or.inr rfl) hK229) sf_sm_nil) 223 287 _ _ σ u h hp
noncomputable def dL_types_229 (ns : Nat) (r0 : Nat) : Nat → Int32 → Int32 → Int32 → Int32 → Int32 → sf_S → Option (Int32 × sf_S)
  | 0 => fun _ _ _ _ _ _ => none
  | n + 1 => fun x1 x2 x3 x5 x6 σ =>
    if x5 ≤ x6 then
      some (x3, σ)
    else
      if x1 = (37 : Int32) then
        (dL_up ns (x2 >>> ((7 : Int32) &&& 31)) (5 : Int32) σ).bind fun u1 =>
        dL_types_287 ns r0 (dL_types_229 ns r0 n) x1 x2 x3 x5 x6 ((1 : Int32) + u1.1) u1.2
      else
        if ¬ x1 = (107 : Int32) then
          if ¬ x6 = 0 then
            (dL_up ns (x2 >>> ((11 : Int32) &&& 31)) (10 : Int32) σ).bind fun u2 =>
            dL_types_287 ns r0 (dL_types_229 ns r0 n) x1 x2 x3 x5 x6 u2.1 u2.2
          else
            (dL_up ns (x2 >>> ((7 : Int32) &&& 31)) (7 : Int32) σ).bind fun u3 =>
            dL_types_287 ns r0 (dL_types_229 ns r0 n) x1 x2 x3 x5 x6 u3.1 u3.2
        else
          (dL_up ns (x2 >>> ((7 : Int32) &&& 31)) (5 : Int32) σ).bind fun u4 =>
          dL_types_287 ns r0 (dL_types_229 ns r0 n) x1 x2 x3 x5 x6 ((1 : Int32) + u4.1) u4.2
set_option maxRecDepth 100000 in
set_option maxHeartbeats 4000000 in
theorem rL_types_229 {Wt : Nat → sf_L → List Value → sf_S → Prop} {Post : (Int32 × sf_S) → Prop} {ns : Nat} (hs : sf_Snd Wt (sf_layW ns) sf_hI (jL_types ns) tL_types Post) (hm : sf_mono Wt) {r0 : Nat} (hq : r0 = 0 ∨ r0 = 59) : ∀ n : Nat, sf_CK Wt Post 229 (wL_types_229 r0 (dL_types_229 ns r0 n)) := by
  intro n
  induction n with
  | zero => exact wL_types_229_ok hm (fun x1 x2 x3 x5 x6 σ u h _ => by simp [dL_types_229] at h)
  | succ n ih =>
    refine wL_types_229_ok hm ?_
    intro x1 x2 x3 x5 x6 σ u h hp
    rcases hq with rfl | rfl
    · exact sf_run_ok hs (sf_sm_cons (rL_types_287 hs hm (Or.inl rfl) ih) sf_sm_nil) 223 229 _ _ σ u h hp
    · exact sf_run_ok hs (sf_sm_cons (rL_types_287 hs hm (Or.inr rfl) ih) sf_sm_nil) 223 229 _ _ σ u h hp
noncomputable def dL_types_116 (ns : Nat) (r0 : Nat) (x1 : Int32) (x2 : Int32) (x3 : Int32) (x4 : Int32) (σ : sf_S) : Option (Int32 × sf_S) :=
  if ¬ x1 = (108 : Int32) then
    if ¬ x1 = (115 : Int32) then
      if x1 = (99 : Int32) then
        dL_types_229 ns r0 sf_F x1 x2 x3 (0 : Int32) (0 : Int32) σ
      else
        if x1 = (122 : Int32) then
          dL_types_229 ns r0 sf_F x1 x2 x3 (0 : Int32) (0 : Int32) σ
        else
          if x1 = (120 : Int32) then
            dL_types_229 ns r0 sf_F x1 x2 x3 (0 : Int32) (0 : Int32) σ
          else
            if x1 = (117 : Int32) then
              dL_types_229 ns r0 sf_F x1 x2 x3 (0 : Int32) (0 : Int32) σ
            else
              if ¬ x1 = (118 : Int32) then
                if x1 = (114 : Int32) then
                  dL_types_229 ns r0 sf_F x1 x2 x3 (2 : Int32) (0 : Int32) σ
                else
                  if ¬ x1 = (105 : Int32) then
                    dL_types_229 ns r0 sf_F x1 x2 x3 (1 : Int32) (0 : Int32) σ
                  else
                    dL_types_229 ns r0 sf_F x1 x2 x3 (2 : Int32) (0 : Int32) σ
              else
                dL_types_229 ns r0 sf_F x1 x2 x3 (0 : Int32) (0 : Int32) σ
    else
      (dL_up ns x2 (4 : Int32) σ).bind fun u1 =>
      (dW_type r0 ((48 : Int32) + u1.1) u1.2).bind fun u2 =>
      if u2.1 ≤ 0 then
        some ((x3 + (-100 : Int32)), u2.2)
      else
        some ((x3 + (1 : Int32)), u2.2)
  else
    (dW_type r0 ((48 : Int32) + x4) σ).bind fun u3 =>
    if u3.1 ≤ 0 then
      some ((x3 + (-100 : Int32)), u3.2)
    else
      some ((x3 + (1 : Int32)), u3.2)
set_option maxRecDepth 100000 in
set_option maxHeartbeats 4000000 in
theorem rL_types_116 {Wt : Nat → sf_L → List Value → sf_S → Prop} {Post : (Int32 × sf_S) → Prop} {ns : Nat} (hs : sf_Snd Wt (sf_layW ns) sf_hI (jL_types ns) tL_types Post) (hm : sf_mono Wt) {r0 : Nat} (hq : r0 = 0 ∨ r0 = 59) : sf_CK Wt Post 116 (wL_types_116 r0 (dL_types_116 ns r0)) := by
  refine wL_types_116_ok hm ?_
  intro x1 x2 x3 x4 σ u h hp
  rcases hq with rfl | rfl
  · exact sf_run_ok hs (sf_sm_cons (rL_types_229 hs hm (Or.inl rfl) sf_F) sf_sm_nil) 223 116 _ _ σ u h hp
  · exact sf_run_ok hs (sf_sm_cons (rL_types_229 hs hm (Or.inr rfl) sf_F) sf_sm_nil) 223 116 _ _ σ u h hp
noncomputable def dL_types_102 (ns : Nat) (r0 : Nat) (x1 : Int32) (x2 : Int32) (x4 : Int32) (y0 : Int32) (y2 : Int32) (σ : sf_S) : Option (Int32 × sf_S) :=
  (dW_type r0 y0 σ).bind fun u1 =>
  if u1.1 ≤ 0 then
    dL_types_116 ns r0 x1 x2 (y2 + (-100 : Int32)) x4 u1.2
  else
    dL_types_116 ns r0 x1 x2 (y2 + (1 : Int32)) x4 u1.2
set_option maxRecDepth 100000 in
set_option maxHeartbeats 4000000 in
theorem rL_types_102 {Wt : Nat → sf_L → List Value → sf_S → Prop} {Post : (Int32 × sf_S) → Prop} {ns : Nat} (hs : sf_Snd Wt (sf_layW ns) sf_hI (jL_types ns) tL_types Post) (hm : sf_mono Wt) {r0 : Nat} (hq : r0 = 0 ∨ r0 = 59) : sf_CK Wt Post 102 (wL_types_102 r0 (dL_types_102 ns r0)) := by
  refine wL_types_102_ok hm ?_
  intro x1 x2 x4 y0 y2 σ u h hp
  rcases hq with rfl | rfl
  · exact sf_run_ok hs (sf_sm_cons (rL_types_116 hs hm (Or.inl rfl)) sf_sm_nil) 223 102 _ _ σ u h hp
  · exact sf_run_ok hs (sf_sm_cons (rL_types_116 hs hm (Or.inr rfl)) sf_sm_nil) 223 102 _ _ σ u h hp
noncomputable def dL_types_61 (ns : Nat) (r0 : Nat) (x1 : Int32) (x2 : Int32) (x3 : Int32) (x4 : Int32) (σ : sf_S) : Option (Int32 × sf_S) :=
  if ¬ x1 = (122 : Int32) then
    dL_types_116 ns r0 x1 x2 x3 x4 σ
  else
    (dL_up ns (x2 >>> ((4 : Int32) &&& 31)) (3 : Int32) σ).bind fun u1 =>
    if ¬ u1.1 = 0 then
      (dL_up ns (x2 >>> ((4 : Int32) &&& 31)) (3 : Int32) u1.2).bind fun u2 =>
      if ¬ u2.1 = (1 : Int32) then
        dL_types_102 ns r0 x1 x2 x4 (60 : Int32) x3 u2.2
      else
        dL_types_102 ns r0 x1 x2 x4 (42 : Int32) x3 u2.2
    else
      dL_types_102 ns r0 x1 x2 x4 (43 : Int32) x3 u1.2
set_option maxRecDepth 100000 in
set_option maxHeartbeats 4000000 in
theorem rL_types_61 {Wt : Nat → sf_L → List Value → sf_S → Prop} {Post : (Int32 × sf_S) → Prop} {ns : Nat} (hs : sf_Snd Wt (sf_layW ns) sf_hI (jL_types ns) tL_types Post) (hm : sf_mono Wt) {r0 : Nat} (hq : r0 = 0 ∨ r0 = 59) : sf_CK Wt Post 61 (wL_types_61 r0 (dL_types_61 ns r0)) := by
  refine wL_types_61_ok hm ?_
  intro x1 x2 x3 x4 σ u h hp
  rcases hq with rfl | rfl
  · exact sf_run_ok hs (sf_sm_cons (rL_types_102 hs hm (Or.inl rfl)) (sf_sm_cons (rL_types_116 hs hm (Or.inl rfl)) sf_sm_nil)) 223 61 _ _ σ u h hp
  · exact sf_run_ok hs (sf_sm_cons (rL_types_102 hs hm (Or.inr rfl)) (sf_sm_cons (rL_types_116 hs hm (Or.inr rfl)) sf_sm_nil)) 223 61 _ _ σ u h hp
noncomputable def dL_types_35 (ns : Nat) (r0 : Nat) (x1 : Int32) (x2 : Int32) (x3 : Int32) (x4 : Int32) (σ : sf_S) : Option (Int32 × sf_S) :=
  (dL_up ns (x2 >>> ((4 : Int32) &&& 31)) (3 : Int32) σ).bind fun u1 =>
  (dW_type r0 ((60 : Int32) + u1.1) u1.2).bind fun u2 =>
  if u2.1 ≤ 0 then
    dL_types_61 ns r0 x1 x2 (x3 + (-100 : Int32)) x4 u2.2
  else
    dL_types_61 ns r0 x1 x2 (x3 + (1 : Int32)) x4 u2.2
set_option maxRecDepth 100000 in
set_option maxHeartbeats 4000000 in
theorem rL_types_35 {Wt : Nat → sf_L → List Value → sf_S → Prop} {Post : (Int32 × sf_S) → Prop} {ns : Nat} (hs : sf_Snd Wt (sf_layW ns) sf_hI (jL_types ns) tL_types Post) (hm : sf_mono Wt) {r0 : Nat} (hq : r0 = 0 ∨ r0 = 59) : sf_CK Wt Post 35 (wL_types_35 r0 (dL_types_35 ns r0)) := by
  refine wL_types_35_ok hm ?_
  intro x1 x2 x3 x4 σ u h hp
  rcases hq with rfl | rfl
  · exact sf_run_ok hs (sf_sm_cons (rL_types_61 hs hm (Or.inl rfl)) sf_sm_nil) 223 35 _ _ σ u h hp
  · exact sf_run_ok hs (sf_sm_cons (rL_types_61 hs hm (Or.inr rfl)) sf_sm_nil) 223 35 _ _ σ u h hp
noncomputable def dL_types_14 (ns : Nat) (r0 : Nat) (x1 : Int32) (x2 : Int32) (y0 : Int32) (σ : sf_S) : Option (Int32 × sf_S) :=
  (dL_up ns x2 (9 : Int32) σ).bind fun u1 =>
  if x1 = (63 : Int32) then
    dL_types_35 ns r0 x1 x2 y0 u1.1 u1.2
  else
    if ¬ x1 = (119 : Int32) then
      dL_types_61 ns r0 x1 x2 y0 u1.1 u1.2
    else
      dL_types_35 ns r0 x1 x2 y0 u1.1 u1.2
set_option maxRecDepth 100000 in
set_option maxHeartbeats 4000000 in
theorem rL_types_14 {Wt : Nat → sf_L → List Value → sf_S → Prop} {Post : (Int32 × sf_S) → Prop} {ns : Nat} (hs : sf_Snd Wt (sf_layW ns) sf_hI (jL_types ns) tL_types Post) (hm : sf_mono Wt) {r0 : Nat} (hq : r0 = 0 ∨ r0 = 59) : sf_CK Wt Post 14 (wL_types_14 r0 (dL_types_14 ns r0)) := by
  refine wL_types_14_ok hm ?_
  intro x1 x2 y0 σ u h hp
  rcases hq with rfl | rfl
  · exact sf_run_ok hs (sf_sm_cons (rL_types_35 hs hm (Or.inl rfl)) (sf_sm_cons (rL_types_61 hs hm (Or.inl rfl)) sf_sm_nil)) 223 14 _ _ σ u h hp
  · exact sf_run_ok hs (sf_sm_cons (rL_types_35 hs hm (Or.inr rfl)) (sf_sm_cons (rL_types_61 hs hm (Or.inr rfl)) sf_sm_nil)) 223 14 _ _ σ u h hp
noncomputable def dL_types (ns : Nat) (r0 : Nat) (x1 : Int32) (x2 : Int32) (σ : sf_S) : Option (Int32 × sf_S) :=
  (dW_type r0 x1 σ).bind fun u1 =>
  if u1.1 ≤ 0 then
    dL_types_14 ns r0 x1 x2 (-100 : Int32) u1.2
  else
    dL_types_14 ns r0 x1 x2 (1 : Int32) u1.2
noncomputable abbrev gL_types (ns : Nat) (av : List Value) (σ : sf_S) : Option (Int32 × sf_S) := match av with
  | [.ref r0, .int x1, .int x2] => (match sf_rv [0, 59] r0 with | true => dL_types ns r0 x1 x2 σ | false => none)
  | _ => none
set_option maxRecDepth 100000 in
set_option maxHeartbeats 4000000 in
theorem rL_types {Wt : Nat → sf_L → List Value → sf_S → Prop} {Post : (Int32 × sf_S) → Prop} {ns : Nat} (hs : sf_Snd Wt (sf_layW ns) sf_hI (jL_types ns) tL_types Post) (hm : sf_mono Wt) : ∀ av σ u, gL_types ns av σ = some u → Post u → (∀ ad, (lg_sl (av.map (sf_v ad))).length ≤ 9) ∧ Wt 0 (sf_ent 0 av) [] σ := by
  intro av σ u h hp
  unfold gL_types at h
  split at h
  · rename_i r0 x1 x2
    split at h
    · rename_i hq
      have hq : r0 = 0 ∨ r0 = 59 := by simpa using sf_rv_mem hq
      refine ⟨fun ad => Nat.le_of_ble_eq_true rfl, ?_⟩
      rcases hq with rfl | rfl
      · exact sf_run_ok hs (sf_sm_cons (rL_types_14 hs hm (Or.inl rfl)) sf_sm_nil) 223 0 _ _ σ u h hp
      · exact sf_run_ok hs (sf_sm_cons (rL_types_14 hs hm (Or.inr rfl)) sf_sm_nil) 223 0 _ _ σ u h hp
    · cases h
  · cases h
theorem kL_types (l : Launch) (ns : Nat) : so_C l (sf_layW ns) yL_types cL_types 9 (some .int) (sf_rm 3 142) (fun av σ => (gL_types ns av σ).map sf_vI) :=
  so_met (tab := tL_types) (J := jL_types ns) (fl := []) (cl := sf_clL) (by decide +kernel) ⟨rfl, rfl⟩ sf_RH_I (by decide +kernel) (fun _ _ _ _ _ h => absurd h List.not_mem_nil) sf_clL_ok
    (so_JO_cons (so_je_V (n := 2) (cs := [9]) (tv := sf_vI) (kW_type l ns) mwX11_type (by decide +kernel : decode cL_types 2 = .ok (.invokevirtual 9, 3)) wt_949 wt_950 wt_951 (by decide +kernel) (by decide) (by decide) (List.forall_mem_cons.mpr ⟨⟨_, _, rfl⟩, fun _ h => absurd h List.not_mem_nil⟩) (so_RM_of (by omega) (by omega))) (so_JO_cons (so_je_S (n := 2) (tv := sf_vI) (kL_up l ns) mwL_up (by decide +kernel : decode cL_types 18 = .ok (.invokestatic 15, 3)) wt_932 wt_933 (by decide +kernel) (so_RM_of (by omega) (by omega))) (so_JO_cons (so_je_S (n := 2) (tv := sf_vI) (kL_up l ns) mwL_up (by decide +kernel : decode cL_types 43 = .ok (.invokestatic 15, 3)) wt_932 wt_933 (by decide +kernel) (so_RM_of (by omega) (by omega))) (so_JO_cons (so_je_V (n := 2) (cs := [9]) (tv := sf_vI) (kW_type l ns) mwX11_type (by decide +kernel : decode cL_types 47 = .ok (.invokevirtual 9, 3)) wt_949 wt_950 wt_951 (by decide +kernel) (by decide) (by decide) (List.forall_mem_cons.mpr ⟨⟨_, _, rfl⟩, fun _ h => absurd h List.not_mem_nil⟩) (so_RM_of (by omega) (by omega))) (so_JO_cons (so_je_S (n := 2) (tv := sf_vI) (kL_up l ns) mwL_up (by decide +kernel : decode cL_types 73 = .ok (.invokestatic 15, 3)) wt_932 wt_933 (by decide +kernel) (so_RM_of (by omega) (by omega))) (so_JO_cons (so_je_S (n := 2) (tv := sf_vI) (kL_up l ns) mwL_up (by decide +kernel : decode cL_types 88 = .ok (.invokestatic 15, 3)) wt_932 wt_933 (by decide +kernel) (so_RM_of (by omega) (by omega))) (so_JO_cons (so_je_V (n := 2) (cs := [9]) (tv := sf_vI) (kW_type l ns) mwX11_type (by decide +kernel : decode cL_types 102 = .ok (.invokevirtual 9, 3)) wt_949 wt_950 wt_951 (by decide +kernel) (by decide) (by decide) (List.forall_mem_cons.mpr ⟨⟨_, _, rfl⟩, fun _ h => absurd h List.not_mem_nil⟩) (so_RM_of (by omega) (by omega))) (so_JO_cons (so_je_V (n := 2) (cs := [9]) (tv := sf_vI) (kW_type l ns) mwX11_type (by decide +kernel : decode cL_types 129 = .ok (.invokevirtual 9, 3)) wt_949 wt_950 wt_951 (by decide +kernel) (by decide) (by decide) (List.forall_mem_cons.mpr ⟨⟨_, _, rfl⟩, fun _ h => absurd h List.not_mem_nil⟩) (so_RM_of (by omega) (by omega))) (so_JO_cons (so_je_S (n := 2) (tv := sf_vI) (kL_up l ns) mwL_up (by decide +kernel : decode cL_types 155 = .ok (.invokestatic 15, 3)) wt_932 wt_933 (by decide +kernel) (so_RM_of (by omega) (by omega))) (so_JO_cons (so_je_V (n := 2) (cs := [9]) (tv := sf_vI) (kW_type l ns) mwX11_type (by decide +kernel : decode cL_types 159 = .ok (.invokevirtual 9, 3)) wt_949 wt_950 wt_951 (by decide +kernel) (by decide) (by decide) (List.forall_mem_cons.mpr ⟨⟨_, _, rfl⟩, fun _ h => absurd h List.not_mem_nil⟩) (so_RM_of (by omega) (by omega))) (so_JO_cons (so_je_S (n := 2) (tv := sf_vI) (kL_up l ns) mwL_up (by decide +kernel : decode cL_types 254 = .ok (.invokestatic 15, 3)) wt_932 wt_933 (by decide +kernel) (so_RM_of (by omega) (by omega))) (so_JO_cons (so_je_S (n := 2) (tv := sf_vI) (kL_up l ns) mwL_up (by decide +kernel : decode cL_types 272 = .ok (.invokestatic 15, 3)) wt_932 wt_933 (by decide +kernel) (so_RM_of (by omega) (by omega))) (so_JO_cons (so_je_S (n := 2) (tv := sf_vI) (kL_up l ns) mwL_up (by decide +kernel : decode cL_types 284 = .ok (.invokestatic 15, 3)) wt_932 wt_933 (by decide +kernel) (so_RM_of (by omega) (by omega))) (so_JO_cons (so_je_V (n := 2) (cs := [9]) (tv := sf_vI) (kW_type l ns) mwX11_type (by decide +kernel : decode cL_types 354 = .ok (.invokevirtual 9, 3)) wt_949 wt_950 wt_951 (by decide +kernel) (by decide) (by decide) (List.forall_mem_cons.mpr ⟨⟨_, _, rfl⟩, fun _ h => absurd h List.not_mem_nil⟩) (so_RM_of (by omega) (by omega))) (so_JO_cons (so_je_V (n := 2) (cs := [9]) (tv := sf_vI) (kW_type l ns) mwX11_type (by decide +kernel : decode cL_types 375 = .ok (.invokevirtual 9, 3)) wt_949 wt_950 wt_951 (by decide +kernel) (by decide) (by decide) (List.forall_mem_cons.mpr ⟨⟨_, _, rfl⟩, fun _ h => absurd h List.not_mem_nil⟩) (so_RM_of (by omega) (by omega))) (so_JO_cons (so_je_V (n := 2) (cs := [9]) (tv := sf_vI) (kW_type l ns) mwX11_type (by decide +kernel : decode cL_types 384 = .ok (.invokevirtual 9, 3)) wt_949 wt_950 wt_951 (by decide +kernel) (by decide) (by decide) (List.forall_mem_cons.mpr ⟨⟨_, _, rfl⟩, fun _ h => absurd h List.not_mem_nil⟩) (so_RM_of (by omega) (by omega))) (so_JO_nil)))))))))))))))))
    (fun Wt Post hs hm => rL_types hs hm)
-- ===== StreamFuserLaw.letter(IZZ)I =====
abbrev tL_letter : List (Nat × sf_E) := [(0, (.iload_n 0, 1, 0, .null, [], [])), (1, (.bipush 18, 3, 0, .int (18), [], [])), (3, (.ishr, 4, 0, .null, [], [])), (4, (.bipush 16, 6, 0, .int (16), [], [])), (6, (.invokestatic 15, 9, 0, .null, [], [])), (9, (.istore_n 3, 10, 0, .null, [], [])), (10, (.iload_n 2, 11, 0, .null, [], [])), (11, (.ifCond .eq 54, 14, 65, .null, [], [])), (14, (.iload_n 1, 15, 0, .null, [], [])), (15, (.ifCond .eq 25, 18, 40, .null, [], [])), (18, (.iload_n 3, 19, 0, .null, [], [])), (19, (.iconst 1, 20, 0, .int (1), [], [])), (20, (.iand, 21, 0, .null, [], [])), (21, (.ifCond .ne 19, 24, 40, .null, [], [])), (24, (.iload_n 3, 25, 0, .null, [], [])), (25, (.bipush 8, 27, 0, .int (8), [], [])), (27, (.if_icmp .ge 8, 30, 35, .null, [], [])), (30, (.bipush 117, 32, 0, .int (117), [], [])), (32, (.goto 32, 35, 64, .null, [], [])), (35, (.bipush 118, 37, 0, .int (118), [], [])), (37, (.goto 27, 40, 64, .null, [], [])), (40, (.iload_n 3, 41, 0, .null, [], [])), (41, (.bipush 10, 43, 0, .int (10), [], [])), (43, (.if_icmp .ge 8, 46, 51, .null, [], [])), (46, (.bipush 114, 48, 0, .int (114), [], [])), (48, (.goto 16, 51, 64, .null, [], [])), (51, (.iload_n 3, 52, 0, .null, [], [])), (52, (.bipush 13, 54, 0, .int (13), [], [])), (54, (.if_icmp .ge 8, 57, 62, .null, [], [])), (57, (.bipush 115, 59, 0, .int (115), [], [])), (59, (.goto 5, 62, 64, .null, [], [])), (62, (.bipush 105, 64, 0, .int (105), [], [])), (64, (.ireturn, 65, 0, .null, [], [])), (65, (.iload_n 3, 66, 0, .null, [], [])), (66, (.tableswitch 106 0 13 #[70, 73, 76, 79, 82, 85, 88, 91, 94, 94, 97, 97, 100, 103], 136, 172, .null, [((0), 136), ((1), 139), ((2), 142), ((3), 145), ((4), 148), ((5), 151), ((6), 154), ((7), 157), ((8), 160), ((9), 160), ((10), 163), ((11), 163), ((12), 166), ((13), 169)], [])), (136, (.bipush 43, 138, 0, .int (43), [], [])), (138, (.ireturn, 139, 0, .null, [], [])), (139, (.bipush 42, 141, 0, .int (42), [], [])), (141, (.ireturn, 142, 0, .null, [], [])), (142, (.bipush 47, 144, 0, .int (47), [], [])), (144, (.ireturn, 145, 0, .null, [], [])), (145, (.bipush 37, 147, 0, .int (37), [], [])), (147, (.ireturn, 148, 0, .null, [], [])), (148, (.bipush 108, 150, 0, .int (108), [], [])), (150, (.ireturn, 151, 0, .null, [], [])), (151, (.bipush 63, 153, 0, .int (63), [], [])), (153, (.ireturn, 154, 0, .null, [], [])), (154, (.bipush 107, 156, 0, .int (107), [], [])), (156, (.ireturn, 157, 0, .null, [], [])), (157, (.bipush 119, 159, 0, .int (119), [], [])), (159, (.ireturn, 160, 0, .null, [], [])), (160, (.bipush 116, 162, 0, .int (116), [], [])), (162, (.ireturn, 163, 0, .null, [], [])), (163, (.bipush 100, 165, 0, .int (100), [], [])), (165, (.ireturn, 166, 0, .null, [], [])), (166, (.bipush 99, 168, 0, .int (99), [], [])), (168, (.ireturn, 169, 0, .null, [], [])), (169, (.bipush 122, 171, 0, .int (122), [], [])), (171, (.ireturn, 172, 0, .null, [], [])), (172, (.bipush 120, 174, 0, .int (120), [], [])), (174, (.ireturn, 175, 0, .null, [], []))]
noncomputable abbrev jL_letter (ns : Nat) : List (Nat × sf_J (Int32 × sf_S)) := [(6, sf_jI (sf_layW ns) [] 2 (gL_up ns))]
abbrev wL_letter_40 {ρ : Type} (k : Int32 → sf_S → Option ρ) : sf_M ρ := fun L st σ => sf_ldi L 3 fun x3 => sf_nil st (k x3 σ)
theorem wL_letter_40_ok {ρ : Type} {Wt : Nat → sf_L → List Value → sf_S → Prop} {Post : ρ → Prop} (hm : sf_mono Wt) {k : Int32 → sf_S → Option ρ} (h : ∀ (x3 : Int32) (σ : sf_S) (u : ρ), k x3 σ = some u → Post u → Wt 40 [(3, some (.int x3))] [] σ) : sf_CK Wt Post 40 (wL_letter_40 k) := by
  intro L st σ u hf hp
  unfold wL_letter_40 at hf
  have hf0 := hf
  obtain ⟨x3, e3, hf1⟩ := sf_ldi_inv hf0
  obtain ⟨rfl, hz⟩ := sf_nil_inv hf1
  exact hm _ [(3, some (.int x3))] _ _ _ (sf_le_ok (And.intro e3 trivial)) (h _ _ _ hz hp)
noncomputable def dL_letter_40 (ns : Nat) (x3 : Int32) (σ : sf_S) : Option (Int32 × sf_S) :=
  if (10 : Int32) ≤ x3 then
    if (13 : Int32) ≤ x3 then
      some ((105 : Int32), σ)
    else
      some ((115 : Int32), σ)
  else
    some ((114 : Int32), σ)
set_option maxRecDepth 100000 in
set_option maxHeartbeats 4000000 in
theorem rL_letter_40 {Wt : Nat → sf_L → List Value → sf_S → Prop} {Post : (Int32 × sf_S) → Prop} {ns : Nat} (hs : sf_Snd Wt (sf_layW ns) sf_hI (jL_letter ns) tL_letter Post) (hm : sf_mono Wt) : sf_CK Wt Post 40 (wL_letter_40 (dL_letter_40 ns)) := by
  refine wL_letter_40_ok hm ?_
  intro x3 σ u h hp
  exact sf_run_ok hs sf_sm_nil 66 40 _ _ σ u h hp
noncomputable def dL_letter (ns : Nat) (x0 : Int32) (x1 : Int32) (x2 : Int32) (σ : sf_S) : Option (Int32 × sf_S) :=
  (dL_up ns (x0 >>> ((18 : Int32) &&& 31)) (16 : Int32) σ).bind fun u1 =>
  if x2 = 0 then
    if u1.1 = (0 : Int32) then
      some ((43 : Int32), u1.2)
    else
    if u1.1 = (1 : Int32) then
      some ((42 : Int32), u1.2)
    else
    if u1.1 = (2 : Int32) then
      some ((47 : Int32), u1.2)
    else
    if u1.1 = (3 : Int32) then
      some ((37 : Int32), u1.2)
    else
    if u1.1 = (4 : Int32) then
      some ((108 : Int32), u1.2)
    else
    if u1.1 = (5 : Int32) then
      some ((63 : Int32), u1.2)
    else
    if u1.1 = (6 : Int32) then
      some ((107 : Int32), u1.2)
    else
    if u1.1 = (7 : Int32) then
      some ((119 : Int32), u1.2)
    else
    if u1.1 = (8 : Int32) then
      some ((116 : Int32), u1.2)
    else
    if u1.1 = (9 : Int32) then
      some ((116 : Int32), u1.2)
    else
    if u1.1 = (10 : Int32) then
      some ((100 : Int32), u1.2)
    else
    if u1.1 = (11 : Int32) then
      some ((100 : Int32), u1.2)
    else
    if u1.1 = (12 : Int32) then
      some ((99 : Int32), u1.2)
    else
    if u1.1 = (13 : Int32) then
      some ((122 : Int32), u1.2)
    else
      some ((120 : Int32), u1.2)
  else
    if x1 = 0 then
      dL_letter_40 ns u1.1 u1.2
    else
      if ¬ (u1.1 &&& (1 : Int32)) = 0 then
        dL_letter_40 ns u1.1 u1.2
      else
        if (8 : Int32) ≤ u1.1 then
          some ((118 : Int32), u1.2)
        else
          some ((117 : Int32), u1.2)
noncomputable abbrev gL_letter (ns : Nat) (av : List Value) (σ : sf_S) : Option (Int32 × sf_S) := match av with
  | [.int x0, .int x1, .int x2] => dL_letter ns x0 x1 x2 σ
  | _ => none
set_option maxRecDepth 100000 in
set_option maxHeartbeats 4000000 in
theorem rL_letter {Wt : Nat → sf_L → List Value → sf_S → Prop} {Post : (Int32 × sf_S) → Prop} {ns : Nat} (hs : sf_Snd Wt (sf_layW ns) sf_hI (jL_letter ns) tL_letter Post) (hm : sf_mono Wt) : ∀ av σ u, gL_letter ns av σ = some u → Post u → (∀ ad, (lg_sl (av.map (sf_v ad))).length ≤ 4) ∧ Wt 0 (sf_ent 0 av) [] σ := by
  intro av σ u h hp
  unfold gL_letter at h
  split at h
  · rename_i x0 x1 x2
    refine ⟨fun ad => Nat.le_of_ble_eq_true rfl, ?_⟩
    exact sf_run_ok hs (sf_sm_cons (rL_letter_40 hs hm) sf_sm_nil) 66 0 _ _ σ u h hp
  · cases h
theorem kL_letter (l : Launch) (ns : Nat) : so_C l (sf_layW ns) yL_letter cL_letter 4 (some .int) (sf_rm 2 121) (fun av σ => (gL_letter ns av σ).map sf_vI) :=
  so_met (tab := tL_letter) (J := jL_letter ns) (fl := []) (cl := sf_clL) (by decide +kernel) ⟨rfl, rfl⟩ sf_RH_I (by decide +kernel) (fun _ _ _ _ _ h => absurd h List.not_mem_nil) sf_clL_ok
    (so_JO_cons (so_je_S (n := 2) (tv := sf_vI) (kL_up l ns) mwL_up (by decide +kernel : decode cL_letter 6 = .ok (.invokestatic 15, 3)) wt_932 wt_933 (by decide +kernel) (so_RM_of (by omega) (by omega))) (so_JO_nil))
    (fun Wt Post hs hm => rL_letter hs hm)
-- ===== StreamFuserLaw.plans(LStreamFuser;[II)I =====
abbrev tL_plans : List (Nat × sf_E) := [(0, (.aload_n 0, 1, 0, .null, [], [])), (1, (.invokevirtual 21, 4, 0, .null, [], [])), (4, (.ifCond .ge 5, 7, 9, .null, [], [])), (7, (.iconst (-1), 8, 0, .int (-1), [], [])), (8, (.ireturn, 9, 0, .null, [], [])), (9, (.lconst 0, 10, 0, .long 0, [], [])), (10, (.lstore_n 3, 11, 0, .null, [], [])), (11, (.iconst 1, 12, 0, .int (1), [], [])), (12, (.istore 5, 14, 0, .null, [], [])), (14, (.iconst 0, 15, 0, .int (0), [], [])), (15, (.istore 6, 17, 0, .null, [], [])), (17, (.iconst 0, 18, 0, .int (0), [], [])), (18, (.istore 7, 20, 0, .null, [], [])), (20, (.iload 5, 22, 0, .null, [], [])), (22, (.ifCond .le 284, 25, 306, .null, [], [])), (25, (.aload_n 1, 26, 0, .null, [], [])), (26, (.iload_n 2, 27, 0, .null, [], [])), (27, (.iload 6, 29, 0, .null, [], [])), (29, (.bipush 20, 31, 0, .int (20), [], [])), (31, (.irem, 32, 0, .null, [], [])), (32, (.iadd, 33, 0, .null, [], [])), (33, (.invokestatic 25, 36, 0, .null, [], [])), (36, (.iload 6, 38, 0, .null, [], [])), (38, (.bipush 20, 40, 0, .int (20), [], [])), (40, (.idiv, 41, 0, .null, [], [])), (41, (.bipush 9, 43, 0, .int (9), [], [])), (43, (.ishl, 44, 0, .null, [], [])), (44, (.ixor, 45, 0, .null, [], [])), (45, (.istore 8, 47, 0, .null, [], [])), (47, (.lload_n 3, 48, 0, .null, [], [])), (48, (.lconst 1, 49, 0, .long 1, [], [])), (49, (.land, 50, 0, .null, [], [])), (50, (.lconst 1, 51, 0, .long 1, [], [])), (51, (.lcmp, 52, 0, .null, [], [])), (52, (.ifCond .ne 7, 55, 59, .null, [], [])), (55, (.iconst 1, 56, 0, .int (1), [], [])), (56, (.goto 4, 59, 60, .null, [], [])), (59, (.iconst 0, 60, 0, .int (0), [], [])), (60, (.istore 9, 62, 0, .null, [], [])), (62, (.iload 8, 64, 0, .null, [], [])), (64, (.iload 9, 66, 0, .null, [], [])), (66, (.bipush 40, 68, 0, .int (40), [], [])), (68, (.iload 7, 70, 0, .null, [], [])), (70, (.isub, 71, 0, .null, [], [])), (71, (.bipush 8, 73, 0, .int (8), [], [])), (73, (.iload 5, 75, 0, .null, [], [])), (75, (.imul, 76, 0, .null, [], [])), (76, (.bipush 10, 78, 0, .int (10), [], [])), (78, (.iadd, 79, 0, .null, [], [])), (79, (.if_icmp .lt 16, 82, 95, .null, [], [])), (82, (.iload 8, 84, 0, .null, [], [])), (84, (.bipush 23, 86, 0, .int (23), [], [])), (86, (.ishr, 87, 0, .null, [], [])), (87, (.bipush 6, 89, 0, .int (6), [], [])), (89, (.invokestatic 15, 92, 0, .null, [], [])), (92, (.ifCond .ne 7, 95, 99, .null, [], [])), (95, (.iconst 1, 96, 0, .int (1), [], [])), (96, (.goto 4, 99, 100, .null, [], [])), (99, (.iconst 0, 100, 0, .int (0), [], [])), (100, (.invokestatic 29, 103, 0, .null, [], [])), (103, (.istore 10, 105, 0, .null, [], [])), (105, (.lload_n 3, 106, 0, .null, [], [])), (106, (.iconst 1, 107, 0, .int (1), [], [])), (107, (.lshr, 108, 0, .null, [], [])), (108, (.lstore_n 3, 109, 0, .null, [], [])), (109, (.iinc 5 (-1), 112, 0, .int (-1), [], [])), (112, (.iload 10, 114, 0, .null, [], [])), (114, (.bipush 99, 116, 0, .int (99), [], [])), (116, (.if_icmp .eq 17, 119, 133, .null, [], [])), (119, (.iload 10, 121, 0, .null, [], [])), (121, (.bipush 122, 123, 0, .int (122), [], [])), (123, (.if_icmp .eq 10, 126, 133, .null, [], [])), (126, (.iload 10, 128, 0, .null, [], [])), (128, (.bipush 120, 130, 0, .int (120), [], [])), (130, (.if_icmp .ne 7, 133, 137, .null, [], [])), (133, (.iconst 1, 134, 0, .int (1), [], [])), (134, (.goto 4, 137, 138, .null, [], [])), (137, (.iconst 0, 138, 0, .int (0), [], [])), (138, (.istore 11, 140, 0, .null, [], [])), (140, (.iload 10, 142, 0, .null, [], [])), (142, (.bipush 43, 144, 0, .int (43), [], [])), (144, (.if_icmp .eq 66, 147, 210, .null, [], [])), (147, (.iload 10, 149, 0, .null, [], [])), (149, (.bipush 42, 151, 0, .int (42), [], [])), (151, (.if_icmp .eq 59, 154, 210, .null, [], [])), (154, (.iload 10, 156, 0, .null, [], [])), (156, (.bipush 47, 158, 0, .int (47), [], [])), (158, (.if_icmp .eq 52, 161, 210, .null, [], [])), (161, (.iload 10, 163, 0, .null, [], [])), (163, (.bipush 37, 165, 0, .int (37), [], [])), (165, (.if_icmp .eq 45, 168, 210, .null, [], [])), (168, (.iload 10, 170, 0, .null, [], [])), (170, (.bipush 108, 172, 0, .int (108), [], [])), (172, (.if_icmp .eq 38, 175, 210, .null, [], [])), (175, (.iload 10, 177, 0, .null, [], [])), (177, (.bipush 63, 179, 0, .int (63), [], [])), (179, (.if_icmp .eq 31, 182, 210, .null, [], [])), (182, (.iload 10, 184, 0, .null, [], [])), (184, (.bipush 107, 186, 0, .int (107), [], [])), (186, (.if_icmp .eq 24, 189, 210, .null, [], [])), (189, (.iload 10, 191, 0, .null, [], [])), (191, (.bipush 119, 193, 0, .int (119), [], [])), (193, (.if_icmp .eq 17, 196, 210, .null, [], [])), (196, (.iload 10, 198, 0, .null, [], [])), (198, (.bipush 116, 200, 0, .int (116), [], [])), (200, (.if_icmp .eq 10, 203, 210, .null, [], [])), (203, (.iload 10, 205, 0, .null, [], [])), (205, (.bipush 100, 207, 0, .int (100), [], [])), (207, (.if_icmp .ne 7, 210, 214, .null, [], [])), (210, (.iconst 1, 211, 0, .int (1), [], [])), (211, (.goto 4, 214, 215, .null, [], [])), (214, (.iconst 0, 215, 0, .int (0), [], [])), (215, (.istore 12, 217, 0, .null, [], [])), (217, (.iload 12, 219, 0, .null, [], [])), (219, (.ifCond .ne 8, 222, 227, .null, [], [])), (222, (.iload 11, 224, 0, .null, [], [])), (224, (.ifCond .eq 21, 227, 245, .null, [], [])), (227, (.lload_n 3, 228, 0, .null, [], [])), (228, (.iconst 1, 229, 0, .int (1), [], [])), (229, (.lshl, 230, 0, .null, [], [])), (230, (.iload 9, 232, 0, .null, [], [])), (232, (.ifCond .eq 7, 235, 239, .null, [], [])), (235, (.lconst 1, 236, 0, .long 1, [], [])), (236, (.goto 4, 239, 240, .null, [], [])), (239, (.lconst 0, 240, 0, .long 0, [], [])), (240, (.lor, 241, 0, .null, [], [])), (241, (.lstore_n 3, 242, 0, .null, [], [])), (242, (.iinc 5 1, 245, 0, .int (1), [], [])), (245, (.iload 11, 247, 0, .null, [], [])), (247, (.ifCond .eq 28, 250, 275, .null, [], [])), (250, (.lload_n 3, 251, 0, .null, [], [])), (251, (.iconst 1, 252, 0, .int (1), [], [])), (252, (.lshl, 253, 0, .null, [], [])), (253, (.iload 9, 255, 0, .null, [], [])), (255, (.ifCond .ne 10, 258, 265, .null, [], [])), (258, (.iload 10, 260, 0, .null, [], [])), (260, (.bipush 120, 262, 0, .int (120), [], [])), (262, (.if_icmp .ne 7, 265, 269, .null, [], [])), (265, (.lconst 1, 266, 0, .long 1, [], [])), (266, (.goto 4, 269, 270, .null, [], [])), (269, (.lconst 0, 270, 0, .long 0, [], [])), (270, (.lor, 271, 0, .null, [], [])), (271, (.lstore_n 3, 272, 0, .null, [], [])), (272, (.iinc 5 1, 275, 0, .int (1), [], [])), (275, (.aload_n 0, 276, 0, .null, [], [])), (276, (.iload 10, 278, 0, .null, [], [])), (278, (.iload 8, 280, 0, .null, [], [])), (280, (.invokestatic 33, 283, 0, .null, [], [])), (283, (.istore 13, 285, 0, .null, [], [])), (285, (.iload 13, 287, 0, .null, [], [])), (287, (.iconst 1, 288, 0, .int (1), [], [])), (288, (.if_icmp .ge 5, 291, 293, .null, [], [])), (291, (.iconst (-1), 292, 0, .int (-1), [], [])), (292, (.ireturn, 293, 0, .null, [], [])), (293, (.iload 7, 295, 0, .null, [], [])), (295, (.iload 13, 297, 0, .null, [], [])), (297, (.iadd, 298, 0, .null, [], [])), (298, (.istore 7, 300, 0, .null, [], [])), (300, (.iinc 6 1, 303, 0, .int (1), [], [])), (303, (.goto (-283), 306, 20, .null, [], [])), (306, (.aload_n 0, 307, 0, .null, [], [])), (307, (.invokevirtual 37, 310, 0, .null, [], [])), (310, (.iconst (-1), 311, 0, .int (-1), [], [])), (311, (.if_icmp .ne 27, 314, 338, .null, [], [])), (314, (.aload_n 0, 315, 0, .null, [], [])), (315, (.invokevirtual 40, 318, 0, .null, [], [])), (318, (.iload 6, 320, 0, .null, [], [])), (320, (.if_icmp .ne 18, 323, 338, .null, [], [])), (323, (.aload_n 0, 324, 0, .null, [], [])), (324, (.iconst (-1), 325, 0, .int (-1), [], [])), (325, (.invokevirtual 43, 328, 0, .null, [], [])), (328, (.iload 7, 330, 0, .null, [], [])), (330, (.if_icmp .ne 8, 333, 338, .null, [], [])), (333, (.iload 6, 335, 0, .null, [], [])), (335, (.goto 4, 338, 339, .null, [], [])), (338, (.iconst (-1), 339, 0, .int (-1), [], [])), (339, (.ireturn, 340, 0, .null, [], []))]
noncomputable abbrev jL_plans (ns : Nat) : List (Nat × sf_J (Int32 × sf_S)) := [(1, sf_jI (sf_layW ns) [9] 1 gW_wipe), (33, sf_jI (sf_layW ns) [] 2 (gL_cell ns)), (89, sf_jI (sf_layW ns) [] 2 (gL_up ns)), (100, sf_jI (sf_layW ns) [] 3 (gL_letter ns)), (280, sf_jI (sf_layW ns) [] 3 (gL_types ns)), (307, sf_jI (sf_layW ns) [9] 1 gW_fault), (315, sf_jI (sf_layW ns) [9] 1 gW_plan), (325, sf_jI (sf_layW ns) [9] 2 gW_text)]
abbrev wL_plans_275 {ρ : Type} (r0 : Nat) (k : Int32 → Int64 → Int32 → Int32 → Int32 → Int32 → Int32 → sf_S → Option ρ) : sf_M ρ := fun L st σ => sf_lda L 0 fun a0 => sf_eq a0 r0 (sf_lda L 1 fun a1 => sf_eq a1 118 (sf_ldi L 2 fun x2 => sf_ldl L 3 fun x3 => sf_ldi L 5 fun x5 => sf_ldi L 6 fun x6 => sf_ldi L 7 fun x7 => sf_ldi L 8 fun x8 => sf_ldi L 10 fun x10 => sf_nil st (k x2 x3 x5 x6 x7 x8 x10 σ)))
theorem wL_plans_275_ok {ρ : Type} {Wt : Nat → sf_L → List Value → sf_S → Prop} {Post : ρ → Prop} (hm : sf_mono Wt) {r0 : Nat} {k : Int32 → Int64 → Int32 → Int32 → Int32 → Int32 → Int32 → sf_S → Option ρ} (h : ∀ (x2 : Int32) (x3 : Int64) (x5 : Int32) (x6 : Int32) (x7 : Int32) (x8 : Int32) (x10 : Int32) (σ : sf_S) (u : ρ), k x2 x3 x5 x6 x7 x8 x10 σ = some u → Post u → Wt 275 [(0, some (.ref r0)), (1, some (.ref 118)), (2, some (.int x2)), (3, some (.long x3)), (5, some (.int x5)), (6, some (.int x6)), (7, some (.int x7)), (8, some (.int x8)), (10, some (.int x10))] [] σ) : sf_CK Wt Post 275 (wL_plans_275 r0 k) := by
  intro L st σ u hf hp
  unfold wL_plans_275 at hf
  have hf0 := hf
  obtain ⟨a0, e0, hf1⟩ := sf_lda_inv hf0
  obtain ⟨rfl, hf2⟩ := sf_eq_inv hf1
  obtain ⟨a1, e1, hf3⟩ := sf_lda_inv hf2
  obtain ⟨rfl, hf4⟩ := sf_eq_inv hf3
  obtain ⟨x2, e2, hf5⟩ := sf_ldi_inv hf4
  obtain ⟨x3, e3, hf6⟩ := sf_ldl_inv hf5
  obtain ⟨x5, e5, hf7⟩ := sf_ldi_inv hf6
  obtain ⟨x6, e6, hf8⟩ := sf_ldi_inv hf7
  obtain ⟨x7, e7, hf9⟩ := sf_ldi_inv hf8
  obtain ⟨x8, e8, hf10⟩ := sf_ldi_inv hf9
  obtain ⟨x10, e10, hf11⟩ := sf_ldi_inv hf10
  obtain ⟨rfl, hz⟩ := sf_nil_inv hf11
  exact hm _ [(0, some (.ref _)), (1, some (.ref _)), (2, some (.int x2)), (3, some (.long x3)), (5, some (.int x5)), (6, some (.int x6)), (7, some (.int x7)), (8, some (.int x8)), (10, some (.int x10))] _ _ _ (sf_le_ok (And.intro e0 (And.intro e1 (And.intro e2 (And.intro e3 (And.intro e5 (And.intro e6 (And.intro e7 (And.intro e8 (And.intro e10 trivial)))))))))) (h _ _ _ _ _ _ _ _ _ hz hp)
abbrev wL_plans_245 {ρ : Type} (r0 : Nat) (k : Int32 → Int64 → Int32 → Int32 → Int32 → Int32 → Int32 → Int32 → Int32 → sf_S → Option ρ) : sf_M ρ := fun L st σ => sf_lda L 0 fun a0 => sf_eq a0 r0 (sf_lda L 1 fun a1 => sf_eq a1 118 (sf_ldi L 2 fun x2 => sf_ldl L 3 fun x3 => sf_ldi L 5 fun x5 => sf_ldi L 6 fun x6 => sf_ldi L 7 fun x7 => sf_ldi L 8 fun x8 => sf_ldi L 9 fun x9 => sf_ldi L 10 fun x10 => sf_ldi L 11 fun x11 => sf_nil st (k x2 x3 x5 x6 x7 x8 x9 x10 x11 σ)))
theorem wL_plans_245_ok {ρ : Type} {Wt : Nat → sf_L → List Value → sf_S → Prop} {Post : ρ → Prop} (hm : sf_mono Wt) {r0 : Nat} {k : Int32 → Int64 → Int32 → Int32 → Int32 → Int32 → Int32 → Int32 → Int32 → sf_S → Option ρ} (h : ∀ (x2 : Int32) (x3 : Int64) (x5 : Int32) (x6 : Int32) (x7 : Int32) (x8 : Int32) (x9 : Int32) (x10 : Int32) (x11 : Int32) (σ : sf_S) (u : ρ), k x2 x3 x5 x6 x7 x8 x9 x10 x11 σ = some u → Post u → Wt 245 [(0, some (.ref r0)), (1, some (.ref 118)), (2, some (.int x2)), (3, some (.long x3)), (5, some (.int x5)), (6, some (.int x6)), (7, some (.int x7)), (8, some (.int x8)), (9, some (.int x9)), (10, some (.int x10)), (11, some (.int x11))] [] σ) : sf_CK Wt Post 245 (wL_plans_245 r0 k) := by
  intro L st σ u hf hp
  unfold wL_plans_245 at hf
  have hf0 := hf
  obtain ⟨a0, e0, hf1⟩ := sf_lda_inv hf0
  obtain ⟨rfl, hf2⟩ := sf_eq_inv hf1
  obtain ⟨a1, e1, hf3⟩ := sf_lda_inv hf2
  obtain ⟨rfl, hf4⟩ := sf_eq_inv hf3
  obtain ⟨x2, e2, hf5⟩ := sf_ldi_inv hf4
  obtain ⟨x3, e3, hf6⟩ := sf_ldl_inv hf5
  obtain ⟨x5, e5, hf7⟩ := sf_ldi_inv hf6
  obtain ⟨x6, e6, hf8⟩ := sf_ldi_inv hf7
  obtain ⟨x7, e7, hf9⟩ := sf_ldi_inv hf8
  obtain ⟨x8, e8, hf10⟩ := sf_ldi_inv hf9
  obtain ⟨x9, e9, hf11⟩ := sf_ldi_inv hf10
  obtain ⟨x10, e10, hf12⟩ := sf_ldi_inv hf11
  obtain ⟨x11, e11, hf13⟩ := sf_ldi_inv hf12
  obtain ⟨rfl, hz⟩ := sf_nil_inv hf13
  exact hm _ [(0, some (.ref _)), (1, some (.ref _)), (2, some (.int x2)), (3, some (.long x3)), (5, some (.int x5)), (6, some (.int x6)), (7, some (.int x7)), (8, some (.int x8)), (9, some (.int x9)), (10, some (.int x10)), (11, some (.int x11))] _ _ _ (sf_le_ok (And.intro e0 (And.intro e1 (And.intro e2 (And.intro e3 (And.intro e5 (And.intro e6 (And.intro e7 (And.intro e8 (And.intro e9 (And.intro e10 (And.intro e11 trivial)))))))))))) (h _ _ _ _ _ _ _ _ _ _ _ hz hp)
abbrev wL_plans_227 {ρ : Type} (r0 : Nat) (k : Int32 → Int64 → Int32 → Int32 → Int32 → Int32 → Int32 → Int32 → Int32 → sf_S → Option ρ) : sf_M ρ := fun L st σ => sf_lda L 0 fun a0 => sf_eq a0 r0 (sf_lda L 1 fun a1 => sf_eq a1 118 (sf_ldi L 2 fun x2 => sf_ldl L 3 fun x3 => sf_ldi L 5 fun x5 => sf_ldi L 6 fun x6 => sf_ldi L 7 fun x7 => sf_ldi L 8 fun x8 => sf_ldi L 9 fun x9 => sf_ldi L 10 fun x10 => sf_ldi L 11 fun x11 => sf_nil st (k x2 x3 x5 x6 x7 x8 x9 x10 x11 σ)))
theorem wL_plans_227_ok {ρ : Type} {Wt : Nat → sf_L → List Value → sf_S → Prop} {Post : ρ → Prop} (hm : sf_mono Wt) {r0 : Nat} {k : Int32 → Int64 → Int32 → Int32 → Int32 → Int32 → Int32 → Int32 → Int32 → sf_S → Option ρ} (h : ∀ (x2 : Int32) (x3 : Int64) (x5 : Int32) (x6 : Int32) (x7 : Int32) (x8 : Int32) (x9 : Int32) (x10 : Int32) (x11 : Int32) (σ : sf_S) (u : ρ), k x2 x3 x5 x6 x7 x8 x9 x10 x11 σ = some u → Post u → Wt 227 [(0, some (.ref r0)), (1, some (.ref 118)), (2, some (.int x2)), (3, some (.long x3)), (5, some (.int x5)), (6, some (.int x6)), (7, some (.int x7)), (8, some (.int x8)), (9, some (.int x9)), (10, some (.int x10)), (11, some (.int x11))] [] σ) : sf_CK Wt Post 227 (wL_plans_227 r0 k) := by
  intro L st σ u hf hp
  unfold wL_plans_227 at hf
  have hf0 := hf
  obtain ⟨a0, e0, hf1⟩ := sf_lda_inv hf0
  obtain ⟨rfl, hf2⟩ := sf_eq_inv hf1
  obtain ⟨a1, e1, hf3⟩ := sf_lda_inv hf2
  obtain ⟨rfl, hf4⟩ := sf_eq_inv hf3
  obtain ⟨x2, e2, hf5⟩ := sf_ldi_inv hf4
  obtain ⟨x3, e3, hf6⟩ := sf_ldl_inv hf5
  obtain ⟨x5, e5, hf7⟩ := sf_ldi_inv hf6
  obtain ⟨x6, e6, hf8⟩ := sf_ldi_inv hf7
  obtain ⟨x7, e7, hf9⟩ := sf_ldi_inv hf8
  obtain ⟨x8, e8, hf10⟩ := sf_ldi_inv hf9
  obtain ⟨x9, e9, hf11⟩ := sf_ldi_inv hf10
  obtain ⟨x10, e10, hf12⟩ := sf_ldi_inv hf11
  obtain ⟨x11, e11, hf13⟩ := sf_ldi_inv hf12
  obtain ⟨rfl, hz⟩ := sf_nil_inv hf13
  exact hm _ [(0, some (.ref _)), (1, some (.ref _)), (2, some (.int x2)), (3, some (.long x3)), (5, some (.int x5)), (6, some (.int x6)), (7, some (.int x7)), (8, some (.int x8)), (9, some (.int x9)), (10, some (.int x10)), (11, some (.int x11))] _ _ _ (sf_le_ok (And.intro e0 (And.intro e1 (And.intro e2 (And.intro e3 (And.intro e5 (And.intro e6 (And.intro e7 (And.intro e8 (And.intro e9 (And.intro e10 (And.intro e11 trivial)))))))))))) (h _ _ _ _ _ _ _ _ _ _ _ hz hp)
abbrev wL_plans_210 {ρ : Type} (r0 : Nat) (k : Int32 → Int64 → Int32 → Int32 → Int32 → Int32 → Int32 → Int32 → Int32 → sf_S → Option ρ) : sf_M ρ := fun L st σ => sf_lda L 0 fun a0 => sf_eq a0 r0 (sf_lda L 1 fun a1 => sf_eq a1 118 (sf_ldi L 2 fun x2 => sf_ldl L 3 fun x3 => sf_ldi L 5 fun x5 => sf_ldi L 6 fun x6 => sf_ldi L 7 fun x7 => sf_ldi L 8 fun x8 => sf_ldi L 9 fun x9 => sf_ldi L 10 fun x10 => sf_ldi L 11 fun x11 => sf_nil st (k x2 x3 x5 x6 x7 x8 x9 x10 x11 σ)))
theorem wL_plans_210_ok {ρ : Type} {Wt : Nat → sf_L → List Value → sf_S → Prop} {Post : ρ → Prop} (hm : sf_mono Wt) {r0 : Nat} {k : Int32 → Int64 → Int32 → Int32 → Int32 → Int32 → Int32 → Int32 → Int32 → sf_S → Option ρ} (h : ∀ (x2 : Int32) (x3 : Int64) (x5 : Int32) (x6 : Int32) (x7 : Int32) (x8 : Int32) (x9 : Int32) (x10 : Int32) (x11 : Int32) (σ : sf_S) (u : ρ), k x2 x3 x5 x6 x7 x8 x9 x10 x11 σ = some u → Post u → Wt 210 [(0, some (.ref r0)), (1, some (.ref 118)), (2, some (.int x2)), (3, some (.long x3)), (5, some (.int x5)), (6, some (.int x6)), (7, some (.int x7)), (8, some (.int x8)), (9, some (.int x9)), (10, some (.int x10)), (11, some (.int x11))] [] σ) : sf_CK Wt Post 210 (wL_plans_210 r0 k) := by
  intro L st σ u hf hp
  unfold wL_plans_210 at hf
  have hf0 := hf
  obtain ⟨a0, e0, hf1⟩ := sf_lda_inv hf0
  obtain ⟨rfl, hf2⟩ := sf_eq_inv hf1
  obtain ⟨a1, e1, hf3⟩ := sf_lda_inv hf2
  obtain ⟨rfl, hf4⟩ := sf_eq_inv hf3
  obtain ⟨x2, e2, hf5⟩ := sf_ldi_inv hf4
  obtain ⟨x3, e3, hf6⟩ := sf_ldl_inv hf5
  obtain ⟨x5, e5, hf7⟩ := sf_ldi_inv hf6
  obtain ⟨x6, e6, hf8⟩ := sf_ldi_inv hf7
  obtain ⟨x7, e7, hf9⟩ := sf_ldi_inv hf8
  obtain ⟨x8, e8, hf10⟩ := sf_ldi_inv hf9
  obtain ⟨x9, e9, hf11⟩ := sf_ldi_inv hf10
  obtain ⟨x10, e10, hf12⟩ := sf_ldi_inv hf11
  obtain ⟨x11, e11, hf13⟩ := sf_ldi_inv hf12
  obtain ⟨rfl, hz⟩ := sf_nil_inv hf13
  exact hm _ [(0, some (.ref _)), (1, some (.ref _)), (2, some (.int x2)), (3, some (.long x3)), (5, some (.int x5)), (6, some (.int x6)), (7, some (.int x7)), (8, some (.int x8)), (9, some (.int x9)), (10, some (.int x10)), (11, some (.int x11))] _ _ _ (sf_le_ok (And.intro e0 (And.intro e1 (And.intro e2 (And.intro e3 (And.intro e5 (And.intro e6 (And.intro e7 (And.intro e8 (And.intro e9 (And.intro e10 (And.intro e11 trivial)))))))))))) (h _ _ _ _ _ _ _ _ _ _ _ hz hp)
abbrev wL_plans_138 {ρ : Type} (r0 : Nat) (k : Int32 → Int64 → Int32 → Int32 → Int32 → Int32 → Int32 → Int32 → Int32 → sf_S → Option ρ) : sf_M ρ := fun L st σ => sf_lda L 0 fun a0 => sf_eq a0 r0 (sf_lda L 1 fun a1 => sf_eq a1 118 (sf_ldi L 2 fun x2 => sf_ldl L 3 fun x3 => sf_ldi L 5 fun x5 => sf_ldi L 6 fun x6 => sf_ldi L 7 fun x7 => sf_ldi L 8 fun x8 => sf_ldi L 9 fun x9 => sf_ldi L 10 fun x10 => sf_i1 st fun y0 st => sf_nil st (k x2 x3 x5 x6 x7 x8 x9 x10 y0 σ)))
theorem wL_plans_138_ok {ρ : Type} {Wt : Nat → sf_L → List Value → sf_S → Prop} {Post : ρ → Prop} (hm : sf_mono Wt) {r0 : Nat} {k : Int32 → Int64 → Int32 → Int32 → Int32 → Int32 → Int32 → Int32 → Int32 → sf_S → Option ρ} (h : ∀ (x2 : Int32) (x3 : Int64) (x5 : Int32) (x6 : Int32) (x7 : Int32) (x8 : Int32) (x9 : Int32) (x10 : Int32) (y0 : Int32) (σ : sf_S) (u : ρ), k x2 x3 x5 x6 x7 x8 x9 x10 y0 σ = some u → Post u → Wt 138 [(0, some (.ref r0)), (1, some (.ref 118)), (2, some (.int x2)), (3, some (.long x3)), (5, some (.int x5)), (6, some (.int x6)), (7, some (.int x7)), (8, some (.int x8)), (9, some (.int x9)), (10, some (.int x10))] [.int y0] σ) : sf_CK Wt Post 138 (wL_plans_138 r0 k) := by
  intro L st σ u hf hp
  unfold wL_plans_138 at hf
  have hf0 := hf
  obtain ⟨a0, e0, hf1⟩ := sf_lda_inv hf0
  obtain ⟨rfl, hf2⟩ := sf_eq_inv hf1
  obtain ⟨a1, e1, hf3⟩ := sf_lda_inv hf2
  obtain ⟨rfl, hf4⟩ := sf_eq_inv hf3
  obtain ⟨x2, e2, hf5⟩ := sf_ldi_inv hf4
  obtain ⟨x3, e3, hf6⟩ := sf_ldl_inv hf5
  obtain ⟨x5, e5, hf7⟩ := sf_ldi_inv hf6
  obtain ⟨x6, e6, hf8⟩ := sf_ldi_inv hf7
  obtain ⟨x7, e7, hf9⟩ := sf_ldi_inv hf8
  obtain ⟨x8, e8, hf10⟩ := sf_ldi_inv hf9
  obtain ⟨x9, e9, hf11⟩ := sf_ldi_inv hf10
  obtain ⟨x10, e10, hf12⟩ := sf_ldi_inv hf11
  obtain ⟨y0, st, rfl, hf13⟩ := sf_i1_inv hf12
  obtain ⟨rfl, hz⟩ := sf_nil_inv hf13
  exact hm _ [(0, some (.ref _)), (1, some (.ref _)), (2, some (.int x2)), (3, some (.long x3)), (5, some (.int x5)), (6, some (.int x6)), (7, some (.int x7)), (8, some (.int x8)), (9, some (.int x9)), (10, some (.int x10))] _ _ _ (sf_le_ok (And.intro e0 (And.intro e1 (And.intro e2 (And.intro e3 (And.intro e5 (And.intro e6 (And.intro e7 (And.intro e8 (And.intro e9 (And.intro e10 trivial))))))))))) (h _ _ _ _ _ _ _ _ _ _ _ hz hp)
abbrev wL_plans_100 {ρ : Type} (r0 : Nat) (k : Int32 → Int64 → Int32 → Int32 → Int32 → Int32 → Int32 → Int32 → Int32 → Int32 → sf_S → Option ρ) : sf_M ρ := fun L st σ => sf_lda L 0 fun a0 => sf_eq a0 r0 (sf_lda L 1 fun a1 => sf_eq a1 118 (sf_ldi L 2 fun x2 => sf_ldl L 3 fun x3 => sf_ldi L 5 fun x5 => sf_ldi L 6 fun x6 => sf_ldi L 7 fun x7 => sf_ldi L 8 fun x8 => sf_ldi L 9 fun x9 => sf_i1 st fun y0 st => sf_i1 st fun y1 st => sf_i1 st fun y2 st => sf_nil st (k x2 x3 x5 x6 x7 x8 x9 y0 y1 y2 σ)))
theorem wL_plans_100_ok {ρ : Type} {Wt : Nat → sf_L → List Value → sf_S → Prop} {Post : ρ → Prop} (hm : sf_mono Wt) {r0 : Nat} {k : Int32 → Int64 → Int32 → Int32 → Int32 → Int32 → Int32 → Int32 → Int32 → Int32 → sf_S → Option ρ} (h : ∀ (x2 : Int32) (x3 : Int64) (x5 : Int32) (x6 : Int32) (x7 : Int32) (x8 : Int32) (x9 : Int32) (y0 : Int32) (y1 : Int32) (y2 : Int32) (σ : sf_S) (u : ρ), k x2 x3 x5 x6 x7 x8 x9 y0 y1 y2 σ = some u → Post u → Wt 100 [(0, some (.ref r0)), (1, some (.ref 118)), (2, some (.int x2)), (3, some (.long x3)), (5, some (.int x5)), (6, some (.int x6)), (7, some (.int x7)), (8, some (.int x8)), (9, some (.int x9))] [.int y0, .int y1, .int y2] σ) : sf_CK Wt Post 100 (wL_plans_100 r0 k) := by
  intro L st σ u hf hp
  unfold wL_plans_100 at hf
  have hf0 := hf
  obtain ⟨a0, e0, hf1⟩ := sf_lda_inv hf0
  obtain ⟨rfl, hf2⟩ := sf_eq_inv hf1
  obtain ⟨a1, e1, hf3⟩ := sf_lda_inv hf2
  obtain ⟨rfl, hf4⟩ := sf_eq_inv hf3
  obtain ⟨x2, e2, hf5⟩ := sf_ldi_inv hf4
  obtain ⟨x3, e3, hf6⟩ := sf_ldl_inv hf5
  obtain ⟨x5, e5, hf7⟩ := sf_ldi_inv hf6
  obtain ⟨x6, e6, hf8⟩ := sf_ldi_inv hf7
  obtain ⟨x7, e7, hf9⟩ := sf_ldi_inv hf8
  obtain ⟨x8, e8, hf10⟩ := sf_ldi_inv hf9
  obtain ⟨x9, e9, hf11⟩ := sf_ldi_inv hf10
  obtain ⟨y0, st, rfl, hf12⟩ := sf_i1_inv hf11
  obtain ⟨y1, st, rfl, hf13⟩ := sf_i1_inv hf12
  obtain ⟨y2, st, rfl, hf14⟩ := sf_i1_inv hf13
  obtain ⟨rfl, hz⟩ := sf_nil_inv hf14
  exact hm _ [(0, some (.ref _)), (1, some (.ref _)), (2, some (.int x2)), (3, some (.long x3)), (5, some (.int x5)), (6, some (.int x6)), (7, some (.int x7)), (8, some (.int x8)), (9, some (.int x9))] _ _ _ (sf_le_ok (And.intro e0 (And.intro e1 (And.intro e2 (And.intro e3 (And.intro e5 (And.intro e6 (And.intro e7 (And.intro e8 (And.intro e9 trivial)))))))))) (h _ _ _ _ _ _ _ _ _ _ _ _ hz hp)
abbrev wL_plans_60 {ρ : Type} (r0 : Nat) (k : Int32 → Int64 → Int32 → Int32 → Int32 → Int32 → Int32 → sf_S → Option ρ) : sf_M ρ := fun L st σ => sf_lda L 0 fun a0 => sf_eq a0 r0 (sf_lda L 1 fun a1 => sf_eq a1 118 (sf_ldi L 2 fun x2 => sf_ldl L 3 fun x3 => sf_ldi L 5 fun x5 => sf_ldi L 6 fun x6 => sf_ldi L 7 fun x7 => sf_ldi L 8 fun x8 => sf_i1 st fun y0 st => sf_nil st (k x2 x3 x5 x6 x7 x8 y0 σ)))
theorem wL_plans_60_ok {ρ : Type} {Wt : Nat → sf_L → List Value → sf_S → Prop} {Post : ρ → Prop} (hm : sf_mono Wt) {r0 : Nat} {k : Int32 → Int64 → Int32 → Int32 → Int32 → Int32 → Int32 → sf_S → Option ρ} (h : ∀ (x2 : Int32) (x3 : Int64) (x5 : Int32) (x6 : Int32) (x7 : Int32) (x8 : Int32) (y0 : Int32) (σ : sf_S) (u : ρ), k x2 x3 x5 x6 x7 x8 y0 σ = some u → Post u → Wt 60 [(0, some (.ref r0)), (1, some (.ref 118)), (2, some (.int x2)), (3, some (.long x3)), (5, some (.int x5)), (6, some (.int x6)), (7, some (.int x7)), (8, some (.int x8))] [.int y0] σ) : sf_CK Wt Post 60 (wL_plans_60 r0 k) := by
  intro L st σ u hf hp
  unfold wL_plans_60 at hf
  have hf0 := hf
  obtain ⟨a0, e0, hf1⟩ := sf_lda_inv hf0
  obtain ⟨rfl, hf2⟩ := sf_eq_inv hf1
  obtain ⟨a1, e1, hf3⟩ := sf_lda_inv hf2
  obtain ⟨rfl, hf4⟩ := sf_eq_inv hf3
  obtain ⟨x2, e2, hf5⟩ := sf_ldi_inv hf4
  obtain ⟨x3, e3, hf6⟩ := sf_ldl_inv hf5
  obtain ⟨x5, e5, hf7⟩ := sf_ldi_inv hf6
  obtain ⟨x6, e6, hf8⟩ := sf_ldi_inv hf7
  obtain ⟨x7, e7, hf9⟩ := sf_ldi_inv hf8
  obtain ⟨x8, e8, hf10⟩ := sf_ldi_inv hf9
  obtain ⟨y0, st, rfl, hf11⟩ := sf_i1_inv hf10
  obtain ⟨rfl, hz⟩ := sf_nil_inv hf11
  exact hm _ [(0, some (.ref _)), (1, some (.ref _)), (2, some (.int x2)), (3, some (.long x3)), (5, some (.int x5)), (6, some (.int x6)), (7, some (.int x7)), (8, some (.int x8))] _ _ _ (sf_le_ok (And.intro e0 (And.intro e1 (And.intro e2 (And.intro e3 (And.intro e5 (And.intro e6 (And.intro e7 (And.intro e8 trivial))))))))) (h _ _ _ _ _ _ _ _ _ hz hp)
abbrev wL_plans_20 {ρ : Type} (r0 : Nat) (k : Int32 → Int64 → Int32 → Int32 → Int32 → sf_S → Option ρ) : sf_M ρ := fun L st σ => sf_lda L 0 fun a0 => sf_eq a0 r0 (sf_lda L 1 fun a1 => sf_eq a1 118 (sf_ldi L 2 fun x2 => sf_ldl L 3 fun x3 => sf_ldi L 5 fun x5 => sf_ldi L 6 fun x6 => sf_ldi L 7 fun x7 => sf_nil st (k x2 x3 x5 x6 x7 σ)))
theorem wL_plans_20_ok {ρ : Type} {Wt : Nat → sf_L → List Value → sf_S → Prop} {Post : ρ → Prop} (hm : sf_mono Wt) {r0 : Nat} {k : Int32 → Int64 → Int32 → Int32 → Int32 → sf_S → Option ρ} (h : ∀ (x2 : Int32) (x3 : Int64) (x5 : Int32) (x6 : Int32) (x7 : Int32) (σ : sf_S) (u : ρ), k x2 x3 x5 x6 x7 σ = some u → Post u → Wt 20 [(0, some (.ref r0)), (1, some (.ref 118)), (2, some (.int x2)), (3, some (.long x3)), (5, some (.int x5)), (6, some (.int x6)), (7, some (.int x7))] [] σ) : sf_CK Wt Post 20 (wL_plans_20 r0 k) := by
  intro L st σ u hf hp
  unfold wL_plans_20 at hf
  have hf0 := hf
  obtain ⟨a0, e0, hf1⟩ := sf_lda_inv hf0
  obtain ⟨rfl, hf2⟩ := sf_eq_inv hf1
  obtain ⟨a1, e1, hf3⟩ := sf_lda_inv hf2
  obtain ⟨rfl, hf4⟩ := sf_eq_inv hf3
  obtain ⟨x2, e2, hf5⟩ := sf_ldi_inv hf4
  obtain ⟨x3, e3, hf6⟩ := sf_ldl_inv hf5
  obtain ⟨x5, e5, hf7⟩ := sf_ldi_inv hf6
  obtain ⟨x6, e6, hf8⟩ := sf_ldi_inv hf7
  obtain ⟨x7, e7, hf9⟩ := sf_ldi_inv hf8
  obtain ⟨rfl, hz⟩ := sf_nil_inv hf9
  exact hm _ [(0, some (.ref _)), (1, some (.ref _)), (2, some (.int x2)), (3, some (.long x3)), (5, some (.int x5)), (6, some (.int x6)), (7, some (.int x7))] _ _ _ (sf_le_ok (And.intro e0 (And.intro e1 (And.intro e2 (And.intro e3 (And.intro e5 (And.intro e6 (And.intro e7 trivial)))))))) (h _ _ _ _ _ _ _ hz hp)
noncomputable def dL_plans_275 (ns : Nat) (r0 : Nat) (K20 : Int32 → Int64 → Int32 → Int32 → Int32 → sf_S → Option (Int32 × sf_S)) (x2 : Int32) (x3 : Int64) (x5 : Int32) (x6 : Int32) (x7 : Int32) (x8 : Int32) (x10 : Int32) (σ : sf_S) : Option (Int32 × sf_S) :=
  (dL_types ns r0 x10 x8 σ).bind fun u1 =>
  if (1 : Int32) ≤ u1.1 then
    let v2 := (x7 + u1.1)
    K20 x2 x3 x5 (x6 + (1 : Int32)) v2 u1.2
  else
    some ((-1 : Int32), u1.2)
set_option maxRecDepth 100000 in
set_option maxHeartbeats 4000000 in
theorem rL_plans_275 {Wt : Nat → sf_L → List Value → sf_S → Prop} {Post : (Int32 × sf_S) → Prop} {ns : Nat} (hs : sf_Snd Wt (sf_layW ns) sf_hI (jL_plans ns) tL_plans Post) (hm : sf_mono Wt) {r0 : Nat} (hq : r0 = 0 ∨ r0 = 59) {K20 : Int32 → Int64 → Int32 → Int32 → Int32 → sf_S → Option (Int32 × sf_S)} (hK20 : sf_CK Wt Post 20 (wL_plans_20 r0 K20)) : sf_CK Wt Post 275 (wL_plans_275 r0 (dL_plans_275 ns r0 K20)) := by
  refine wL_plans_275_ok hm ?_
  intro x2 x3 x5 x6 x7 x8 x10 σ u h hp
  rcases hq with rfl | rfl
  · exact sf_run_ok hs (sf_sm_cons hK20 sf_sm_nil) 182 275 _ _ σ u h hp
  · exact sf_run_ok hs (sf_sm_cons hK20 sf_sm_nil) 182 275 _ _ σ u h hp
noncomputable def dL_plans_245 (ns : Nat) (r0 : Nat) (K20 : Int32 → Int64 → Int32 → Int32 → Int32 → sf_S → Option (Int32 × sf_S)) (x2 : Int32) (x3 : Int64) (x5 : Int32) (x6 : Int32) (x7 : Int32) (x8 : Int32) (x9 : Int32) (x10 : Int32) (x11 : Int32) (σ : sf_S) : Option (Int32 × sf_S) :=
  if x11 = 0 then
    dL_plans_275 ns r0 K20 x2 x3 x5 x6 x7 x8 x10 σ
  else
    if ¬ x9 = 0 then
      let v1 := ((x3 <<< (((1 : Int32)).toInt64 &&& 63)) ||| (1 : Int64))
      dL_plans_275 ns r0 K20 x2 v1 (x5 + (1 : Int32)) x6 x7 x8 x10 σ
    else
      if ¬ x10 = (120 : Int32) then
        let v2 := ((x3 <<< (((1 : Int32)).toInt64 &&& 63)) ||| (0 : Int64))
        dL_plans_275 ns r0 K20 x2 v2 (x5 + (1 : Int32)) x6 x7 x8 x10 σ
      else
        let v3 := ((x3 <<< (((1 : Int32)).toInt64 &&& 63)) ||| (1 : Int64))
        dL_plans_275 ns r0 K20 x2 v3 (x5 + (1 : Int32)) x6 x7 x8 x10 σ
set_option maxRecDepth 100000 in
set_option maxHeartbeats 4000000 in
theorem rL_plans_245 {Wt : Nat → sf_L → List Value → sf_S → Prop} {Post : (Int32 × sf_S) → Prop} {ns : Nat} (hs : sf_Snd Wt (sf_layW ns) sf_hI (jL_plans ns) tL_plans Post) (hm : sf_mono Wt) {r0 : Nat} (hq : r0 = 0 ∨ r0 = 59) {K20 : Int32 → Int64 → Int32 → Int32 → Int32 → sf_S → Option (Int32 × sf_S)} (hK20 : sf_CK Wt Post 20 (wL_plans_20 r0 K20)) : sf_CK Wt Post 245 (wL_plans_245 r0 (dL_plans_245 ns r0 K20)) := by
  refine wL_plans_245_ok hm ?_
  intro x2 x3 x5 x6 x7 x8 x9 x10 x11 σ u h hp
  rcases hq with rfl | rfl
  · exact sf_run_ok hs (sf_sm_cons (rL_plans_275 hs hm (Or.inl rfl) hK20) sf_sm_nil) 182 245 _ _ σ u h hp
  · exact sf_run_ok hs (sf_sm_cons (rL_plans_275 hs hm (Or.inr rfl) hK20) sf_sm_nil) 182 245 _ _ σ u h hp
noncomputable def dL_plans_227 (ns : Nat) (r0 : Nat) (K20 : Int32 → Int64 → Int32 → Int32 → Int32 → sf_S → Option (Int32 × sf_S)) (x2 : Int32) (x3 : Int64) (x5 : Int32) (x6 : Int32) (x7 : Int32) (x8 : Int32) (x9 : Int32) (x10 : Int32) (x11 : Int32) (σ : sf_S) : Option (Int32 × sf_S) :=
  if x9 = 0 then
    let v1 := ((x3 <<< (((1 : Int32)).toInt64 &&& 63)) ||| (0 : Int64))
    dL_plans_245 ns r0 K20 x2 v1 (x5 + (1 : Int32)) x6 x7 x8 x9 x10 x11 σ
  else
    let v2 := ((x3 <<< (((1 : Int32)).toInt64 &&& 63)) ||| (1 : Int64))
    dL_plans_245 ns r0 K20 x2 v2 (x5 + (1 : Int32)) x6 x7 x8 x9 x10 x11 σ
set_option maxRecDepth 100000 in
set_option maxHeartbeats 4000000 in
theorem rL_plans_227 {Wt : Nat → sf_L → List Value → sf_S → Prop} {Post : (Int32 × sf_S) → Prop} {ns : Nat} (hs : sf_Snd Wt (sf_layW ns) sf_hI (jL_plans ns) tL_plans Post) (hm : sf_mono Wt) {r0 : Nat} (hq : r0 = 0 ∨ r0 = 59) {K20 : Int32 → Int64 → Int32 → Int32 → Int32 → sf_S → Option (Int32 × sf_S)} (hK20 : sf_CK Wt Post 20 (wL_plans_20 r0 K20)) : sf_CK Wt Post 227 (wL_plans_227 r0 (dL_plans_227 ns r0 K20)) := by
  refine wL_plans_227_ok hm ?_
  intro x2 x3 x5 x6 x7 x8 x9 x10 x11 σ u h hp
  rcases hq with rfl | rfl
  · exact sf_run_ok hs (sf_sm_cons (rL_plans_245 hs hm (Or.inl rfl) hK20) sf_sm_nil) 182 227 _ _ σ u h hp
  · exact sf_run_ok hs (sf_sm_cons (rL_plans_245 hs hm (Or.inr rfl) hK20) sf_sm_nil) 182 227 _ _ σ u h hp
noncomputable def dL_plans_210 (ns : Nat) (r0 : Nat) (K20 : Int32 → Int64 → Int32 → Int32 → Int32 → sf_S → Option (Int32 × sf_S)) (x2 : Int32) (x3 : Int64) (x5 : Int32) (x6 : Int32) (x7 : Int32) (x8 : Int32) (x9 : Int32) (x10 : Int32) (x11 : Int32) (σ : sf_S) : Option (Int32 × sf_S) :=
  if ¬ (1 : Int32) = 0 then
    dL_plans_227 ns r0 K20 x2 x3 x5 x6 x7 x8 x9 x10 x11 σ
  else
    if x11 = 0 then
      dL_plans_245 ns r0 K20 x2 x3 x5 x6 x7 x8 x9 x10 x11 σ
    else
      dL_plans_227 ns r0 K20 x2 x3 x5 x6 x7 x8 x9 x10 x11 σ
set_option maxRecDepth 100000 in
set_option maxHeartbeats 4000000 in
theorem rL_plans_210 {Wt : Nat → sf_L → List Value → sf_S → Prop} {Post : (Int32 × sf_S) → Prop} {ns : Nat} (hs : sf_Snd Wt (sf_layW ns) sf_hI (jL_plans ns) tL_plans Post) (hm : sf_mono Wt) {r0 : Nat} (hq : r0 = 0 ∨ r0 = 59) {K20 : Int32 → Int64 → Int32 → Int32 → Int32 → sf_S → Option (Int32 × sf_S)} (hK20 : sf_CK Wt Post 20 (wL_plans_20 r0 K20)) : sf_CK Wt Post 210 (wL_plans_210 r0 (dL_plans_210 ns r0 K20)) := by
  refine wL_plans_210_ok hm ?_
  intro x2 x3 x5 x6 x7 x8 x9 x10 x11 σ u h hp
  rcases hq with rfl | rfl
  · exact sf_run_ok hs (sf_sm_cons (rL_plans_227 hs hm (Or.inl rfl) hK20) (sf_sm_cons (rL_plans_245 hs hm (Or.inl rfl) hK20) sf_sm_nil)) 182 210 _ _ σ u h hp
  · exact sf_run_ok hs (sf_sm_cons (rL_plans_227 hs hm (Or.inr rfl) hK20) (sf_sm_cons (rL_plans_245 hs hm (Or.inr rfl) hK20) sf_sm_nil)) 182 210 _ _ σ u h hp
noncomputable def dL_plans_138 (ns : Nat) (r0 : Nat) (K20 : Int32 → Int64 → Int32 → Int32 → Int32 → sf_S → Option (Int32 × sf_S)) (x2 : Int32) (x3 : Int64) (x5 : Int32) (x6 : Int32) (x7 : Int32) (x8 : Int32) (x9 : Int32) (x10 : Int32) (y0 : Int32) (σ : sf_S) : Option (Int32 × sf_S) :=
  if x10 = (43 : Int32) then
    dL_plans_210 ns r0 K20 x2 x3 x5 x6 x7 x8 x9 x10 y0 σ
  else
    if x10 = (42 : Int32) then
      dL_plans_210 ns r0 K20 x2 x3 x5 x6 x7 x8 x9 x10 y0 σ
    else
      if x10 = (47 : Int32) then
        dL_plans_210 ns r0 K20 x2 x3 x5 x6 x7 x8 x9 x10 y0 σ
      else
        if x10 = (37 : Int32) then
          dL_plans_210 ns r0 K20 x2 x3 x5 x6 x7 x8 x9 x10 y0 σ
        else
          if x10 = (108 : Int32) then
            dL_plans_210 ns r0 K20 x2 x3 x5 x6 x7 x8 x9 x10 y0 σ
          else
            if x10 = (63 : Int32) then
              dL_plans_210 ns r0 K20 x2 x3 x5 x6 x7 x8 x9 x10 y0 σ
            else
              if x10 = (107 : Int32) then
                dL_plans_210 ns r0 K20 x2 x3 x5 x6 x7 x8 x9 x10 y0 σ
              else
                if x10 = (119 : Int32) then
                  dL_plans_210 ns r0 K20 x2 x3 x5 x6 x7 x8 x9 x10 y0 σ
                else
                  if x10 = (116 : Int32) then
                    dL_plans_210 ns r0 K20 x2 x3 x5 x6 x7 x8 x9 x10 y0 σ
                  else
                    if ¬ x10 = (100 : Int32) then
                      if ¬ (0 : Int32) = 0 then
                        dL_plans_227 ns r0 K20 x2 x3 x5 x6 x7 x8 x9 x10 y0 σ
                      else
                        if y0 = 0 then
                          dL_plans_245 ns r0 K20 x2 x3 x5 x6 x7 x8 x9 x10 y0 σ
                        else
                          dL_plans_227 ns r0 K20 x2 x3 x5 x6 x7 x8 x9 x10 y0 σ
                    else
                      dL_plans_210 ns r0 K20 x2 x3 x5 x6 x7 x8 x9 x10 y0 σ
set_option maxRecDepth 100000 in
set_option maxHeartbeats 4000000 in
theorem rL_plans_138 {Wt : Nat → sf_L → List Value → sf_S → Prop} {Post : (Int32 × sf_S) → Prop} {ns : Nat} (hs : sf_Snd Wt (sf_layW ns) sf_hI (jL_plans ns) tL_plans Post) (hm : sf_mono Wt) {r0 : Nat} (hq : r0 = 0 ∨ r0 = 59) {K20 : Int32 → Int64 → Int32 → Int32 → Int32 → sf_S → Option (Int32 × sf_S)} (hK20 : sf_CK Wt Post 20 (wL_plans_20 r0 K20)) : sf_CK Wt Post 138 (wL_plans_138 r0 (dL_plans_138 ns r0 K20)) := by
  refine wL_plans_138_ok hm ?_
  intro x2 x3 x5 x6 x7 x8 x9 x10 y0 σ u h hp
  rcases hq with rfl | rfl
  · exact sf_run_ok hs (sf_sm_cons (rL_plans_210 hs hm (Or.inl rfl) hK20) (sf_sm_cons (rL_plans_227 hs hm (Or.inl rfl) hK20) (sf_sm_cons (rL_plans_245 hs hm (Or.inl rfl) hK20) sf_sm_nil))) 182 138 _ _ σ u h hp
  · exact sf_run_ok hs (sf_sm_cons (rL_plans_210 hs hm (Or.inr rfl) hK20) (sf_sm_cons (rL_plans_227 hs hm (Or.inr rfl) hK20) (sf_sm_cons (rL_plans_245 hs hm (Or.inr rfl) hK20) sf_sm_nil))) 182 138 _ _ σ u h hp
noncomputable def dL_plans_100 (ns : Nat) (r0 : Nat) (K20 : Int32 → Int64 → Int32 → Int32 → Int32 → sf_S → Option (Int32 × sf_S)) (x2 : Int32) (x3 : Int64) (x5 : Int32) (x6 : Int32) (x7 : Int32) (x8 : Int32) (x9 : Int32) (y0 : Int32) (y1 : Int32) (y2 : Int32) (σ : sf_S) : Option (Int32 × sf_S) :=
  (dL_letter ns y2 y1 y0 σ).bind fun u1 =>
  let v2 := (x3 >>> (((1 : Int32)).toInt64 &&& 63))
  if u1.1 = (99 : Int32) then
    dL_plans_138 ns r0 K20 x2 v2 (x5 + (-1 : Int32)) x6 x7 x8 x9 u1.1 (1 : Int32) u1.2
  else
    if u1.1 = (122 : Int32) then
      dL_plans_138 ns r0 K20 x2 v2 (x5 + (-1 : Int32)) x6 x7 x8 x9 u1.1 (1 : Int32) u1.2
    else
      if ¬ u1.1 = (120 : Int32) then
        dL_plans_138 ns r0 K20 x2 v2 (x5 + (-1 : Int32)) x6 x7 x8 x9 u1.1 (0 : Int32) u1.2
      else
        dL_plans_138 ns r0 K20 x2 v2 (x5 + (-1 : Int32)) x6 x7 x8 x9 u1.1 (1 : Int32) u1.2
set_option maxRecDepth 100000 in
set_option maxHeartbeats 4000000 in
theorem rL_plans_100 {Wt : Nat → sf_L → List Value → sf_S → Prop} {Post : (Int32 × sf_S) → Prop} {ns : Nat} (hs : sf_Snd Wt (sf_layW ns) sf_hI (jL_plans ns) tL_plans Post) (hm : sf_mono Wt) {r0 : Nat} (hq : r0 = 0 ∨ r0 = 59) {K20 : Int32 → Int64 → Int32 → Int32 → Int32 → sf_S → Option (Int32 × sf_S)} (hK20 : sf_CK Wt Post 20 (wL_plans_20 r0 K20)) : sf_CK Wt Post 100 (wL_plans_100 r0 (dL_plans_100 ns r0 K20)) := by
  refine wL_plans_100_ok hm ?_
  intro x2 x3 x5 x6 x7 x8 x9 y0 y1 y2 σ u h hp
  rcases hq with rfl | rfl
  · exact sf_run_ok hs (sf_sm_cons (rL_plans_138 hs hm (Or.inl rfl) hK20) sf_sm_nil) 182 100 _ _ σ u h hp
  · exact sf_run_ok hs (sf_sm_cons (rL_plans_138 hs hm (Or.inr rfl) hK20) sf_sm_nil) 182 100 _ _ σ u h hp
noncomputable def dL_plans_60 (ns : Nat) (r0 : Nat) (K20 : Int32 → Int64 → Int32 → Int32 → Int32 → sf_S → Option (Int32 × sf_S)) (x2 : Int32) (x3 : Int64) (x5 : Int32) (x6 : Int32) (x7 : Int32) (x8 : Int32) (y0 : Int32) (σ : sf_S) : Option (Int32 × sf_S) :=
  if ((40 : Int32) - x7) < (((8 : Int32) * x5) + (10 : Int32)) then
    dL_plans_100 ns r0 K20 x2 x3 x5 x6 x7 x8 y0 (1 : Int32) y0 x8 σ
  else
    (dL_up ns (x8 >>> ((23 : Int32) &&& 31)) (6 : Int32) σ).bind fun u1 =>
    if ¬ u1.1 = 0 then
      dL_plans_100 ns r0 K20 x2 x3 x5 x6 x7 x8 y0 (0 : Int32) y0 x8 u1.2
    else
      dL_plans_100 ns r0 K20 x2 x3 x5 x6 x7 x8 y0 (1 : Int32) y0 x8 u1.2
set_option maxRecDepth 100000 in
set_option maxHeartbeats 4000000 in
theorem rL_plans_60 {Wt : Nat → sf_L → List Value → sf_S → Prop} {Post : (Int32 × sf_S) → Prop} {ns : Nat} (hs : sf_Snd Wt (sf_layW ns) sf_hI (jL_plans ns) tL_plans Post) (hm : sf_mono Wt) {r0 : Nat} (hq : r0 = 0 ∨ r0 = 59) {K20 : Int32 → Int64 → Int32 → Int32 → Int32 → sf_S → Option (Int32 × sf_S)} (hK20 : sf_CK Wt Post 20 (wL_plans_20 r0 K20)) : sf_CK Wt Post 60 (wL_plans_60 r0 (dL_plans_60 ns r0 K20)) := by
  refine wL_plans_60_ok hm ?_
  intro x2 x3 x5 x6 x7 x8 y0 σ u h hp
  rcases hq with rfl | rfl
  · exact sf_run_ok hs (sf_sm_cons (rL_plans_100 hs hm (Or.inl rfl) hK20) sf_sm_nil) 182 60 _ _ σ u h hp
  · exact sf_run_ok hs (sf_sm_cons (rL_plans_100 hs hm (Or.inr rfl) hK20) sf_sm_nil) 182 60 _ _ σ u h hp
noncomputable def dL_plans_20 (ns : Nat) (r0 : Nat) : Nat → Int32 → Int64 → Int32 → Int32 → Int32 → sf_S → Option (Int32 × sf_S)
  | 0 => fun _ _ _ _ _ _ => none
  | n + 1 => fun x2 x3 x5 x6 x7 σ =>
    if x5 ≤ 0 then
      (dW_fault r0 σ).bind fun u1 =>
      if ¬ u1.1 = (-1 : Int32) then
        some ((-1 : Int32), u1.2)
      else
        (dW_plan r0 u1.2).bind fun u2 =>
        if ¬ u2.1 = x6 then
          some ((-1 : Int32), u2.2)
        else
          (dW_text r0 (-1 : Int32) u2.2).bind fun u3 =>
          if ¬ u3.1 = x7 then
            some ((-1 : Int32), u3.2)
          else
            some (x6, u3.2)
    else
      if (20 : Int32) = 0 then
        none
      else
        (dL_cell ns (x2 + (x6 - x6 / (20 : Int32) * (20 : Int32))) σ).bind fun u4 =>
        if (20 : Int32) = 0 then
          none
        else
          let v5 := (u4.1 ^^^ ((x6 / (20 : Int32)) <<< ((9 : Int32) &&& 31)))
          if ¬ (lg_cmp (x3 &&& (1 : Int64)) (1 : Int64)) = 0 then
            dL_plans_60 ns r0 (dL_plans_20 ns r0 n) x2 x3 x5 x6 x7 v5 (0 : Int32) u4.2
          else
            dL_plans_60 ns r0 (dL_plans_20 ns r0 n) x2 x3 x5 x6 x7 v5 (1 : Int32) u4.2
set_option maxRecDepth 100000 in
set_option maxHeartbeats 4000000 in
theorem rL_plans_20 {Wt : Nat → sf_L → List Value → sf_S → Prop} {Post : (Int32 × sf_S) → Prop} {ns : Nat} (hs : sf_Snd Wt (sf_layW ns) sf_hI (jL_plans ns) tL_plans Post) (hm : sf_mono Wt) {r0 : Nat} (hq : r0 = 0 ∨ r0 = 59) : ∀ n : Nat, sf_CK Wt Post 20 (wL_plans_20 r0 (dL_plans_20 ns r0 n)) := by
  intro n
  induction n with
  | zero => exact wL_plans_20_ok hm (fun x2 x3 x5 x6 x7 σ u h _ => by simp [dL_plans_20] at h)
  | succ n ih =>
    refine wL_plans_20_ok hm ?_
    intro x2 x3 x5 x6 x7 σ u h hp
    rcases hq with rfl | rfl
    · exact sf_run_ok hs (sf_sm_cons (rL_plans_60 hs hm (Or.inl rfl) ih) sf_sm_nil) 182 20 _ _ σ u h hp
    · exact sf_run_ok hs (sf_sm_cons (rL_plans_60 hs hm (Or.inr rfl) ih) sf_sm_nil) 182 20 _ _ σ u h hp
noncomputable def dL_plans (ns : Nat) (r0 : Nat) (x2 : Int32) (σ : sf_S) : Option (Int32 × sf_S) :=
  (dW_wipe r0 σ).bind fun u1 =>
  if 0 ≤ u1.1 then
    dL_plans_20 ns r0 sf_F x2 (0 : Int64) (1 : Int32) (0 : Int32) (0 : Int32) u1.2
  else
    some ((-1 : Int32), u1.2)
noncomputable abbrev gL_plans (ns : Nat) (av : List Value) (σ : sf_S) : Option (Int32 × sf_S) := match av with
  | [.ref r0, .ref r1, .int x2] => (match sf_rv2 [(0, 118), (59, 118)] r0 r1 with | true => dL_plans ns r0 x2 σ | false => none)
  | _ => none
set_option maxRecDepth 100000 in
set_option maxHeartbeats 4000000 in
theorem rL_plans {Wt : Nat → sf_L → List Value → sf_S → Prop} {Post : (Int32 × sf_S) → Prop} {ns : Nat} (hs : sf_Snd Wt (sf_layW ns) sf_hI (jL_plans ns) tL_plans Post) (hm : sf_mono Wt) : ∀ av σ u, gL_plans ns av σ = some u → Post u → (∀ ad, (lg_sl (av.map (sf_v ad))).length ≤ 14) ∧ Wt 0 (sf_ent 0 av) [] σ := by
  intro av σ u h hp
  unfold gL_plans at h
  split at h
  · rename_i r0 r1 x2
    split at h
    · rename_i hq
      have hq : (r0 = 0 ∧ r1 = 118) ∨ (r0 = 59 ∧ r1 = 118) := by simpa using sf_rv2_mem hq
      refine ⟨fun ad => Nat.le_of_ble_eq_true rfl, ?_⟩
      rcases hq with ⟨rfl, rfl⟩ | ⟨rfl, rfl⟩
      · exact sf_run_ok hs (sf_sm_cons (rL_plans_20 hs hm (Or.inl rfl) sf_F) sf_sm_nil) 182 0 _ _ σ u h hp
      · exact sf_run_ok hs (sf_sm_cons (rL_plans_20 hs hm (Or.inr rfl) sf_F) sf_sm_nil) 182 0 _ _ σ u h hp
    · cases h
  · cases h
theorem kL_plans (l : Launch) (ns : Nat) : so_C l (sf_layW ns) yL_plans cL_plans 14 (some .int) (sf_rm 7 231) (fun av σ => (gL_plans ns av σ).map sf_vI) :=
  so_met (tab := tL_plans) (J := jL_plans ns) (fl := []) (cl := sf_clL) (by decide +kernel) ⟨rfl, rfl⟩ sf_RH_I (by decide +kernel) (fun _ _ _ _ _ h => absurd h List.not_mem_nil) sf_clL_ok
    (so_JO_cons (so_je_V (n := 1) (cs := [9]) (tv := sf_vI) (kW_wipe l ns) mwX11_wipe (by decide +kernel : decode cL_plans 1 = .ok (.invokevirtual 21, 3)) wt_939 wt_940 wt_941 (by decide +kernel) (by decide) (by decide) (List.forall_mem_cons.mpr ⟨⟨_, _, rfl⟩, fun _ h => absurd h List.not_mem_nil⟩) (so_RM_of (by omega) (by omega))) (so_JO_cons (so_je_S (n := 2) (tv := sf_vI) (kL_cell l ns) mwL_cell (by decide +kernel : decode cL_plans 33 = .ok (.invokestatic 25, 3)) wt_928 wt_929 (by decide +kernel) (so_RM_of (by omega) (by omega))) (so_JO_cons (so_je_S (n := 2) (tv := sf_vI) (kL_up l ns) mwL_up (by decide +kernel : decode cL_plans 89 = .ok (.invokestatic 15, 3)) wt_932 wt_933 (by decide +kernel) (so_RM_of (by omega) (by omega))) (so_JO_cons (so_je_S (n := 3) (tv := sf_vI) (kL_letter l ns) mwL_letter (by decide +kernel : decode cL_plans 100 = .ok (.invokestatic 29, 3)) wt_943 wt_944 (by decide +kernel) (so_RM_of (by omega) (by omega))) (so_JO_cons (so_je_S (n := 3) (tv := sf_vI) (kL_types l ns) mwL_types (by decide +kernel : decode cL_plans 280 = .ok (.invokestatic 33, 3)) wt_946 wt_947 (by decide +kernel) (so_RM_of (by omega) (by omega))) (so_JO_cons (so_je_V (n := 1) (cs := [9]) (tv := sf_vI) (kW_fault l ns) mwX11_fault (by decide +kernel : decode cL_plans 307 = .ok (.invokevirtual 37, 3)) wt_957 wt_958 wt_959 (by decide +kernel) (by decide) (by decide) (List.forall_mem_cons.mpr ⟨⟨_, _, rfl⟩, fun _ h => absurd h List.not_mem_nil⟩) (so_RM_of (by omega) (by omega))) (so_JO_cons (so_je_V (n := 1) (cs := [9]) (tv := sf_vI) (kW_plan l ns) mwX11_plan (by decide +kernel : decode cL_plans 315 = .ok (.invokevirtual 40, 3)) wt_1006 wt_1007 wt_1008 (by decide +kernel) (by decide) (by decide) (List.forall_mem_cons.mpr ⟨⟨_, _, rfl⟩, fun _ h => absurd h List.not_mem_nil⟩) (so_RM_of (by omega) (by omega))) (so_JO_cons (so_je_V (n := 2) (cs := [9]) (tv := sf_vI) (kW_text l ns) mwX11_text (by decide +kernel : decode cL_plans 325 = .ok (.invokevirtual 43, 3)) wt_473 wt_474 wt_475 (by decide +kernel) (by decide) (by decide) (List.forall_mem_cons.mpr ⟨⟨_, _, rfl⟩, fun _ h => absurd h List.not_mem_nil⟩) (so_RM_of (by omega) (by omega))) (so_JO_nil)))))))))
    (fun Wt Post hs hm => rL_plans hs hm)
-- ===== StreamFuserLaw.same(LStreamFuser;LStreamFuser;)Z =====
abbrev tL_same : List (Nat × sf_E) := [(0, (.iconst 0, 1, 0, .int (0), [], [])), (1, (.istore_n 2, 2, 0, .null, [], [])), (2, (.iload_n 2, 3, 0, .null, [], [])), (3, (.aload_n 0, 4, 0, .null, [], [])), (4, (.iconst 2, 5, 0, .int (2), [], [])), (5, (.invokevirtual 46, 8, 0, .null, [], [])), (8, (.if_icmp .ge 25, 11, 33, .null, [], [])), (11, (.aload_n 0, 12, 0, .null, [], [])), (12, (.iload_n 2, 13, 0, .null, [], [])), (13, (.invokevirtual 49, 16, 0, .null, [], [])), (16, (.aload_n 1, 17, 0, .null, [], [])), (17, (.iload_n 2, 18, 0, .null, [], [])), (18, (.invokevirtual 49, 21, 0, .null, [], [])), (21, (.lcmp, 22, 0, .null, [], [])), (22, (.ifCond .eq 5, 25, 27, .null, [], [])), (25, (.iconst 0, 26, 0, .int (0), [], [])), (26, (.ireturn, 27, 0, .null, [], [])), (27, (.iinc 2 1, 30, 0, .int (1), [], [])), (30, (.goto (-28), 33, 2, .null, [], [])), (33, (.iconst 0, 34, 0, .int (0), [], [])), (34, (.istore_n 2, 35, 0, .null, [], [])), (35, (.iload_n 2, 36, 0, .null, [], [])), (36, (.bipush 40, 38, 0, .int (40), [], [])), (38, (.if_icmp .ge 52, 41, 90, .null, [], [])), (41, (.iload_n 2, 42, 0, .null, [], [])), (42, (.aload_n 0, 43, 0, .null, [], [])), (43, (.iconst 3, 44, 0, .int (3), [], [])), (44, (.invokevirtual 53, 47, 0, .null, [], [])), (47, (.if_icmp .ge 43, 50, 90, .null, [], [])), (50, (.aload_n 0, 51, 0, .null, [], [])), (51, (.iload_n 2, 52, 0, .null, [], [])), (52, (.iconst 0, 53, 0, .int (0), [], [])), (53, (.invokevirtual 56, 56, 0, .null, [], [])), (56, (.aload_n 1, 57, 0, .null, [], [])), (57, (.iload_n 2, 58, 0, .null, [], [])), (58, (.iconst 0, 59, 0, .int (0), [], [])), (59, (.invokevirtual 56, 62, 0, .null, [], [])), (62, (.lcmp, 63, 0, .null, [], [])), (63, (.ifCond .ne 19, 66, 82, .null, [], [])), (66, (.aload_n 0, 67, 0, .null, [], [])), (67, (.iload_n 2, 68, 0, .null, [], [])), (68, (.iconst 1, 69, 0, .int (1), [], [])), (69, (.invokevirtual 56, 72, 0, .null, [], [])), (72, (.aload_n 1, 73, 0, .null, [], [])), (73, (.iload_n 2, 74, 0, .null, [], [])), (74, (.iconst 1, 75, 0, .int (1), [], [])), (75, (.invokevirtual 56, 78, 0, .null, [], [])), (78, (.lcmp, 79, 0, .null, [], [])), (79, (.ifCond .eq 5, 82, 84, .null, [], [])), (82, (.iconst 0, 83, 0, .int (0), [], [])), (83, (.ireturn, 84, 0, .null, [], [])), (84, (.iinc 2 1, 87, 0, .int (1), [], [])), (87, (.goto (-52), 90, 35, .null, [], [])), (90, (.aload_n 0, 91, 0, .null, [], [])), (91, (.iconst 2, 92, 0, .int (2), [], [])), (92, (.invokevirtual 46, 95, 0, .null, [], [])), (95, (.aload_n 1, 96, 0, .null, [], [])), (96, (.iconst 2, 97, 0, .int (2), [], [])), (97, (.invokevirtual 46, 100, 0, .null, [], [])), (100, (.if_icmp .ne 46, 103, 146, .null, [], [])), (103, (.aload_n 0, 104, 0, .null, [], [])), (104, (.iconst 3, 105, 0, .int (3), [], [])), (105, (.invokevirtual 53, 108, 0, .null, [], [])), (108, (.aload_n 1, 109, 0, .null, [], [])), (109, (.iconst 3, 110, 0, .int (3), [], [])), (110, (.invokevirtual 53, 113, 0, .null, [], [])), (113, (.if_icmp .ne 33, 116, 146, .null, [], [])), (116, (.aload_n 0, 117, 0, .null, [], [])), (117, (.iconst 0, 118, 0, .int (0), [], [])), (118, (.invokevirtual 60, 121, 0, .null, [], [])), (121, (.aload_n 1, 122, 0, .null, [], [])), (122, (.iconst 0, 123, 0, .int (0), [], [])), (123, (.invokevirtual 60, 126, 0, .null, [], [])), (126, (.if_icmp .ne 20, 129, 146, .null, [], [])), (129, (.aload_n 0, 130, 0, .null, [], [])), (130, (.iconst 1, 131, 0, .int (1), [], [])), (131, (.invokevirtual 60, 134, 0, .null, [], [])), (134, (.aload_n 1, 135, 0, .null, [], [])), (135, (.iconst 1, 136, 0, .int (1), [], [])), (136, (.invokevirtual 60, 139, 0, .null, [], [])), (139, (.if_icmp .ne 7, 142, 146, .null, [], [])), (142, (.iconst 1, 143, 0, .int (1), [], [])), (143, (.goto 4, 146, 147, .null, [], [])), (146, (.iconst 0, 147, 0, .int (0), [], [])), (147, (.ireturn, 148, 0, .null, [], []))]
noncomputable abbrev jL_same (ns : Nat) : List (Nat × sf_J (Int32 × sf_S)) := [(5, sf_jI (sf_layW ns) [9] 2 gW_count), (13, sf_jL (sf_layW ns) [9] 2 gW_result), (18, sf_jL (sf_layW ns) [9] 2 gW_result), (44, sf_jI (sf_layW ns) [9] 2 gW_told), (53, sf_jL (sf_layW ns) [9] 3 gW_written), (59, sf_jL (sf_layW ns) [9] 3 gW_written), (69, sf_jL (sf_layW ns) [9] 3 gW_written), (75, sf_jL (sf_layW ns) [9] 3 gW_written), (92, sf_jI (sf_layW ns) [9] 2 gW_count), (97, sf_jI (sf_layW ns) [9] 2 gW_count), (105, sf_jI (sf_layW ns) [9] 2 gW_told), (110, sf_jI (sf_layW ns) [9] 2 gW_told), (118, sf_jI (sf_layW ns) [9] 2 gW_failure), (123, sf_jI (sf_layW ns) [9] 2 gW_failure), (131, sf_jI (sf_layW ns) [9] 2 gW_failure), (136, sf_jI (sf_layW ns) [9] 2 gW_failure)]
abbrev wL_same_90 {ρ : Type} (k : sf_S → Option ρ) : sf_M ρ := fun L st σ => sf_lda L 0 fun a0 => sf_eq a0 0 (sf_lda L 1 fun a1 => sf_eq a1 59 (sf_nil st (k  σ)))
theorem wL_same_90_ok {ρ : Type} {Wt : Nat → sf_L → List Value → sf_S → Prop} {Post : ρ → Prop} (hm : sf_mono Wt) {k : sf_S → Option ρ} (h : ∀  (σ : sf_S) (u : ρ), k  σ = some u → Post u → Wt 90 [(0, some (.ref 0)), (1, some (.ref 59))] [] σ) : sf_CK Wt Post 90 (wL_same_90 k) := by
  intro L st σ u hf hp
  unfold wL_same_90 at hf
  have hf0 := hf
  obtain ⟨a0, e0, hf1⟩ := sf_lda_inv hf0
  obtain ⟨rfl, hf2⟩ := sf_eq_inv hf1
  obtain ⟨a1, e1, hf3⟩ := sf_lda_inv hf2
  obtain ⟨rfl, hf4⟩ := sf_eq_inv hf3
  obtain ⟨rfl, hz⟩ := sf_nil_inv hf4
  exact hm _ [(0, some (.ref _)), (1, some (.ref _))] _ _ _ (sf_le_ok (And.intro e0 (And.intro e1 trivial))) (h  _ _ hz hp)
abbrev wL_same_35 {ρ : Type} (k : Int32 → sf_S → Option ρ) : sf_M ρ := fun L st σ => sf_lda L 0 fun a0 => sf_eq a0 0 (sf_lda L 1 fun a1 => sf_eq a1 59 (sf_ldi L 2 fun x2 => sf_nil st (k x2 σ)))
theorem wL_same_35_ok {ρ : Type} {Wt : Nat → sf_L → List Value → sf_S → Prop} {Post : ρ → Prop} (hm : sf_mono Wt) {k : Int32 → sf_S → Option ρ} (h : ∀ (x2 : Int32) (σ : sf_S) (u : ρ), k x2 σ = some u → Post u → Wt 35 [(0, some (.ref 0)), (1, some (.ref 59)), (2, some (.int x2))] [] σ) : sf_CK Wt Post 35 (wL_same_35 k) := by
  intro L st σ u hf hp
  unfold wL_same_35 at hf
  have hf0 := hf
  obtain ⟨a0, e0, hf1⟩ := sf_lda_inv hf0
  obtain ⟨rfl, hf2⟩ := sf_eq_inv hf1
  obtain ⟨a1, e1, hf3⟩ := sf_lda_inv hf2
  obtain ⟨rfl, hf4⟩ := sf_eq_inv hf3
  obtain ⟨x2, e2, hf5⟩ := sf_ldi_inv hf4
  obtain ⟨rfl, hz⟩ := sf_nil_inv hf5
  exact hm _ [(0, some (.ref _)), (1, some (.ref _)), (2, some (.int x2))] _ _ _ (sf_le_ok (And.intro e0 (And.intro e1 (And.intro e2 trivial)))) (h _ _ _ hz hp)
abbrev wL_same_2 {ρ : Type} (k : Int32 → sf_S → Option ρ) : sf_M ρ := fun L st σ => sf_lda L 0 fun a0 => sf_eq a0 0 (sf_lda L 1 fun a1 => sf_eq a1 59 (sf_ldi L 2 fun x2 => sf_nil st (k x2 σ)))
theorem wL_same_2_ok {ρ : Type} {Wt : Nat → sf_L → List Value → sf_S → Prop} {Post : ρ → Prop} (hm : sf_mono Wt) {k : Int32 → sf_S → Option ρ} (h : ∀ (x2 : Int32) (σ : sf_S) (u : ρ), k x2 σ = some u → Post u → Wt 2 [(0, some (.ref 0)), (1, some (.ref 59)), (2, some (.int x2))] [] σ) : sf_CK Wt Post 2 (wL_same_2 k) := by
  intro L st σ u hf hp
  unfold wL_same_2 at hf
  have hf0 := hf
  obtain ⟨a0, e0, hf1⟩ := sf_lda_inv hf0
  obtain ⟨rfl, hf2⟩ := sf_eq_inv hf1
  obtain ⟨a1, e1, hf3⟩ := sf_lda_inv hf2
  obtain ⟨rfl, hf4⟩ := sf_eq_inv hf3
  obtain ⟨x2, e2, hf5⟩ := sf_ldi_inv hf4
  obtain ⟨rfl, hz⟩ := sf_nil_inv hf5
  exact hm _ [(0, some (.ref _)), (1, some (.ref _)), (2, some (.int x2))] _ _ _ (sf_le_ok (And.intro e0 (And.intro e1 (And.intro e2 trivial)))) (h _ _ _ hz hp)
noncomputable def dL_same_90 (ns : Nat) (σ : sf_S) : Option (Int32 × sf_S) :=
  (dW_count 0 (2 : Int32) σ).bind fun u1 =>
  (dW_count 59 (2 : Int32) u1.2).bind fun u2 =>
  if ¬ u1.1 = u2.1 then
    some ((0 : Int32), u2.2)
  else
    (dW_told 0 (3 : Int32) u2.2).bind fun u3 =>
    (dW_told 59 (3 : Int32) u3.2).bind fun u4 =>
    if ¬ u3.1 = u4.1 then
      some ((0 : Int32), u4.2)
    else
      (dW_failure 0 (0 : Int32) u4.2).bind fun u5 =>
      (dW_failure 59 (0 : Int32) u5.2).bind fun u6 =>
      if ¬ u5.1 = u6.1 then
        some ((0 : Int32), u6.2)
      else
        (dW_failure 0 (1 : Int32) u6.2).bind fun u7 =>
        (dW_failure 59 (1 : Int32) u7.2).bind fun u8 =>
        if ¬ u7.1 = u8.1 then
          some ((0 : Int32), u8.2)
        else
          some ((1 : Int32), u8.2)
set_option maxRecDepth 100000 in
set_option maxHeartbeats 4000000 in
theorem rL_same_90 {Wt : Nat → sf_L → List Value → sf_S → Prop} {Post : (Int32 × sf_S) → Prop} {ns : Nat} (hs : sf_Snd Wt (sf_layW ns) sf_hZ (jL_same ns) tL_same Post) (hm : sf_mono Wt) : sf_CK Wt Post 90 (wL_same_90 (dL_same_90 ns)) := by
  refine wL_same_90_ok hm ?_
  intro  σ u h hp
  exact sf_run_ok hs sf_sm_nil 90 90 _ _ σ u h hp
noncomputable def dL_same_35 (ns : Nat) : Nat → Int32 → sf_S → Option (Int32 × sf_S)
  | 0 => fun _ _ => none
  | n + 1 => fun x2 σ =>
    if (40 : Int32) ≤ x2 then
      dL_same_90 ns σ
    else
      (dW_told 0 (3 : Int32) σ).bind fun u1 =>
      if u1.1 ≤ x2 then
        dL_same_90 ns u1.2
      else
        (dW_written 0 x2 (0 : Int32) u1.2).bind fun u2 =>
        (dW_written 59 x2 (0 : Int32) u2.2).bind fun u3 =>
        if ¬ (lg_cmp u2.1 u3.1) = 0 then
          some ((0 : Int32), u3.2)
        else
          (dW_written 0 x2 (1 : Int32) u3.2).bind fun u4 =>
          (dW_written 59 x2 (1 : Int32) u4.2).bind fun u5 =>
          if (lg_cmp u4.1 u5.1) = 0 then
            dL_same_35 ns n (x2 + (1 : Int32)) u5.2
          else
            some ((0 : Int32), u5.2)
set_option maxRecDepth 100000 in
set_option maxHeartbeats 4000000 in
theorem rL_same_35 {Wt : Nat → sf_L → List Value → sf_S → Prop} {Post : (Int32 × sf_S) → Prop} {ns : Nat} (hs : sf_Snd Wt (sf_layW ns) sf_hZ (jL_same ns) tL_same Post) (hm : sf_mono Wt) : ∀ n : Nat, sf_CK Wt Post 35 (wL_same_35 (dL_same_35 ns n)) := by
  intro n
  induction n with
  | zero => exact wL_same_35_ok hm (fun x2 σ u h _ => by simp [dL_same_35] at h)
  | succ n ih =>
    refine wL_same_35_ok hm ?_
    intro x2 σ u h hp
    exact sf_run_ok hs (sf_sm_cons ih (sf_sm_cons (rL_same_90 hs hm) sf_sm_nil)) 90 35 _ _ σ u h hp
noncomputable def dL_same_2 (ns : Nat) : Nat → Int32 → sf_S → Option (Int32 × sf_S)
  | 0 => fun _ _ => none
  | n + 1 => fun x2 σ =>
    (dW_count 0 (2 : Int32) σ).bind fun u1 =>
    if u1.1 ≤ x2 then
      dL_same_35 ns sf_F (0 : Int32) u1.2
    else
      (dW_result 0 x2 u1.2).bind fun u2 =>
      (dW_result 59 x2 u2.2).bind fun u3 =>
      if (lg_cmp u2.1 u3.1) = 0 then
        dL_same_2 ns n (x2 + (1 : Int32)) u3.2
      else
        some ((0 : Int32), u3.2)
set_option maxRecDepth 100000 in
set_option maxHeartbeats 4000000 in
theorem rL_same_2 {Wt : Nat → sf_L → List Value → sf_S → Prop} {Post : (Int32 × sf_S) → Prop} {ns : Nat} (hs : sf_Snd Wt (sf_layW ns) sf_hZ (jL_same ns) tL_same Post) (hm : sf_mono Wt) : ∀ n : Nat, sf_CK Wt Post 2 (wL_same_2 (dL_same_2 ns n)) := by
  intro n
  induction n with
  | zero => exact wL_same_2_ok hm (fun x2 σ u h _ => by simp [dL_same_2] at h)
  | succ n ih =>
    refine wL_same_2_ok hm ?_
    intro x2 σ u h hp
    exact sf_run_ok hs (sf_sm_cons ih (sf_sm_cons (rL_same_35 hs hm sf_F) sf_sm_nil)) 90 2 _ _ σ u h hp
noncomputable def dL_same (ns : Nat) (σ : sf_S) : Option (Int32 × sf_S) :=
  dL_same_2 ns sf_F (0 : Int32) σ
noncomputable abbrev gL_same (ns : Nat) (av : List Value) (σ : sf_S) : Option (Int32 × sf_S) := match av with
  | [.ref r0, .ref r1] => (match sf_rv2 [(0, 59)] r0 r1 with | true => dL_same ns σ | false => none)
  | _ => none
set_option maxRecDepth 100000 in
set_option maxHeartbeats 4000000 in
theorem rL_same {Wt : Nat → sf_L → List Value → sf_S → Prop} {Post : (Int32 × sf_S) → Prop} {ns : Nat} (hs : sf_Snd Wt (sf_layW ns) sf_hZ (jL_same ns) tL_same Post) (hm : sf_mono Wt) : ∀ av σ u, gL_same ns av σ = some u → Post u → (∀ ad, (lg_sl (av.map (sf_v ad))).length ≤ 3) ∧ Wt 0 (sf_ent 0 av) [] σ := by
  intro av σ u h hp
  unfold gL_same at h
  split at h
  · rename_i r0 r1
    split at h
    · rename_i hq
      have hq : (r0 = 0 ∧ r1 = 59) := by simpa using sf_rv2_mem hq
      refine ⟨fun ad => Nat.le_of_ble_eq_true rfl, ?_⟩
      rcases hq with ⟨rfl, rfl⟩
      exact sf_run_ok hs (sf_sm_cons (rL_same_2 hs hm sf_F) sf_sm_nil) 90 0 _ _ σ u h hp
    · cases h
  · cases h
theorem kL_same (l : Launch) (ns : Nat) : so_C l (sf_layW ns) yL_same cL_same 3 (some .boolean) (sf_rm 3 142) (fun av σ => (gL_same ns av σ).map sf_vI) :=
  so_met (tab := tL_same) (J := jL_same ns) (fl := []) (cl := sf_clL) (by decide +kernel) ⟨rfl, rfl⟩ sf_RH_Z (by decide +kernel) (fun _ _ _ _ _ h => absurd h List.not_mem_nil) sf_clL_ok
    (so_JO_cons (so_je_V (n := 2) (cs := [9]) (tv := sf_vI) (kW_count l ns) mwX11_count (by decide +kernel : decode cL_same 5 = .ok (.invokevirtual 46, 3)) wt_924 wt_925 wt_926 (by decide +kernel) (by decide) (by decide) (List.forall_mem_cons.mpr ⟨⟨_, _, rfl⟩, fun _ h => absurd h List.not_mem_nil⟩) (so_RM_of (by omega) (by omega))) (so_JO_cons (so_je_V (n := 2) (cs := [9]) (tv := sf_vL) (kW_result l ns) mwX11_result (by decide +kernel : decode cL_same 13 = .ok (.invokevirtual 49, 3)) wt_911 wt_912 wt_913 (by decide +kernel) (by decide) (by decide) (List.forall_mem_cons.mpr ⟨⟨_, _, rfl⟩, fun _ h => absurd h List.not_mem_nil⟩) (so_RM_of (by omega) (by omega))) (so_JO_cons (so_je_V (n := 2) (cs := [9]) (tv := sf_vL) (kW_result l ns) mwX11_result (by decide +kernel : decode cL_same 18 = .ok (.invokevirtual 49, 3)) wt_911 wt_912 wt_913 (by decide +kernel) (by decide) (by decide) (List.forall_mem_cons.mpr ⟨⟨_, _, rfl⟩, fun _ h => absurd h List.not_mem_nil⟩) (so_RM_of (by omega) (by omega))) (so_JO_cons (so_je_V (n := 2) (cs := [9]) (tv := sf_vI) (kW_told l ns) mwX11_told (by decide +kernel : decode cL_same 44 = .ok (.invokevirtual 53, 3)) wt_920 wt_921 wt_922 (by decide +kernel) (by decide) (by decide) (List.forall_mem_cons.mpr ⟨⟨_, _, rfl⟩, fun _ h => absurd h List.not_mem_nil⟩) (so_RM_of (by omega) (by omega))) (so_JO_cons (so_je_V (n := 3) (cs := [9]) (tv := sf_vL) (kW_written l ns) mwX11_written (by decide +kernel : decode cL_same 53 = .ok (.invokevirtual 56, 3)) wt_1013 wt_1014 wt_1015 (by decide +kernel) (by decide) (by decide) (List.forall_mem_cons.mpr ⟨⟨_, _, rfl⟩, fun _ h => absurd h List.not_mem_nil⟩) (so_RM_of (by omega) (by omega))) (so_JO_cons (so_je_V (n := 3) (cs := [9]) (tv := sf_vL) (kW_written l ns) mwX11_written (by decide +kernel : decode cL_same 59 = .ok (.invokevirtual 56, 3)) wt_1013 wt_1014 wt_1015 (by decide +kernel) (by decide) (by decide) (List.forall_mem_cons.mpr ⟨⟨_, _, rfl⟩, fun _ h => absurd h List.not_mem_nil⟩) (so_RM_of (by omega) (by omega))) (so_JO_cons (so_je_V (n := 3) (cs := [9]) (tv := sf_vL) (kW_written l ns) mwX11_written (by decide +kernel : decode cL_same 69 = .ok (.invokevirtual 56, 3)) wt_1013 wt_1014 wt_1015 (by decide +kernel) (by decide) (by decide) (List.forall_mem_cons.mpr ⟨⟨_, _, rfl⟩, fun _ h => absurd h List.not_mem_nil⟩) (so_RM_of (by omega) (by omega))) (so_JO_cons (so_je_V (n := 3) (cs := [9]) (tv := sf_vL) (kW_written l ns) mwX11_written (by decide +kernel : decode cL_same 75 = .ok (.invokevirtual 56, 3)) wt_1013 wt_1014 wt_1015 (by decide +kernel) (by decide) (by decide) (List.forall_mem_cons.mpr ⟨⟨_, _, rfl⟩, fun _ h => absurd h List.not_mem_nil⟩) (so_RM_of (by omega) (by omega))) (so_JO_cons (so_je_V (n := 2) (cs := [9]) (tv := sf_vI) (kW_count l ns) mwX11_count (by decide +kernel : decode cL_same 92 = .ok (.invokevirtual 46, 3)) wt_924 wt_925 wt_926 (by decide +kernel) (by decide) (by decide) (List.forall_mem_cons.mpr ⟨⟨_, _, rfl⟩, fun _ h => absurd h List.not_mem_nil⟩) (so_RM_of (by omega) (by omega))) (so_JO_cons (so_je_V (n := 2) (cs := [9]) (tv := sf_vI) (kW_count l ns) mwX11_count (by decide +kernel : decode cL_same 97 = .ok (.invokevirtual 46, 3)) wt_924 wt_925 wt_926 (by decide +kernel) (by decide) (by decide) (List.forall_mem_cons.mpr ⟨⟨_, _, rfl⟩, fun _ h => absurd h List.not_mem_nil⟩) (so_RM_of (by omega) (by omega))) (so_JO_cons (so_je_V (n := 2) (cs := [9]) (tv := sf_vI) (kW_told l ns) mwX11_told (by decide +kernel : decode cL_same 105 = .ok (.invokevirtual 53, 3)) wt_920 wt_921 wt_922 (by decide +kernel) (by decide) (by decide) (List.forall_mem_cons.mpr ⟨⟨_, _, rfl⟩, fun _ h => absurd h List.not_mem_nil⟩) (so_RM_of (by omega) (by omega))) (so_JO_cons (so_je_V (n := 2) (cs := [9]) (tv := sf_vI) (kW_told l ns) mwX11_told (by decide +kernel : decode cL_same 110 = .ok (.invokevirtual 53, 3)) wt_920 wt_921 wt_922 (by decide +kernel) (by decide) (by decide) (List.forall_mem_cons.mpr ⟨⟨_, _, rfl⟩, fun _ h => absurd h List.not_mem_nil⟩) (so_RM_of (by omega) (by omega))) (so_JO_cons (so_je_V (n := 2) (cs := [9]) (tv := sf_vI) (kW_failure l ns) mwX11_failure (by decide +kernel : decode cL_same 118 = .ok (.invokevirtual 60, 3)) wt_916 wt_917 wt_918 (by decide +kernel) (by decide) (by decide) (List.forall_mem_cons.mpr ⟨⟨_, _, rfl⟩, fun _ h => absurd h List.not_mem_nil⟩) (so_RM_of (by omega) (by omega))) (so_JO_cons (so_je_V (n := 2) (cs := [9]) (tv := sf_vI) (kW_failure l ns) mwX11_failure (by decide +kernel : decode cL_same 123 = .ok (.invokevirtual 60, 3)) wt_916 wt_917 wt_918 (by decide +kernel) (by decide) (by decide) (List.forall_mem_cons.mpr ⟨⟨_, _, rfl⟩, fun _ h => absurd h List.not_mem_nil⟩) (so_RM_of (by omega) (by omega))) (so_JO_cons (so_je_V (n := 2) (cs := [9]) (tv := sf_vI) (kW_failure l ns) mwX11_failure (by decide +kernel : decode cL_same 131 = .ok (.invokevirtual 60, 3)) wt_916 wt_917 wt_918 (by decide +kernel) (by decide) (by decide) (List.forall_mem_cons.mpr ⟨⟨_, _, rfl⟩, fun _ h => absurd h List.not_mem_nil⟩) (so_RM_of (by omega) (by omega))) (so_JO_cons (so_je_V (n := 2) (cs := [9]) (tv := sf_vI) (kW_failure l ns) mwX11_failure (by decide +kernel : decode cL_same 136 = .ok (.invokevirtual 60, 3)) wt_916 wt_917 wt_918 (by decide +kernel) (by decide) (by decide) (List.forall_mem_cons.mpr ⟨⟨_, _, rfl⟩, fun _ h => absurd h List.not_mem_nil⟩) (so_RM_of (by omega) (by omega))) (so_JO_nil)))))))))))))))))
    (fun Wt Post hs hm => rL_same hs hm)
-- ===== StreamFuserLaw.sheets(LStreamFuser;I)Z =====
abbrev tL_sheets : List (Nat × sf_E) := [(0, (.iconst 1, 1, 0, .int (1), [], [])), (1, (.istore_n 2, 2, 0, .null, [], [])), (2, (.iconst 0, 3, 0, .int (0), [], [])), (3, (.istore_n 3, 4, 0, .null, [], [])), (4, (.iload_n 3, 5, 0, .null, [], [])), (5, (.iconst 3, 6, 0, .int (3), [], [])), (6, (.if_icmp .ge 94, 9, 100, .null, [], [])), (9, (.iload_n 2, 10, 0, .null, [], [])), (10, (.ifCond .eq 90, 13, 100, .null, [], [])), (13, (.iload_n 1, 14, 0, .null, [], [])), (14, (.iconst 3, 15, 0, .int (3), [], [])), (15, (.iload_n 3, 16, 0, .null, [], [])), (16, (.imul, 17, 0, .null, [], [])), (17, (.ishr, 18, 0, .null, [], [])), (18, (.iconst 5, 19, 0, .int (5), [], [])), (19, (.invokestatic 15, 22, 0, .null, [], [])), (22, (.istore 4, 24, 0, .null, [], [])), (24, (.aload_n 0, 25, 0, .null, [], [])), (25, (.iload_n 3, 26, 0, .null, [], [])), (26, (.iload_n 3, 27, 0, .null, [], [])), (27, (.iload 4, 29, 0, .null, [], [])), (29, (.invokevirtual 63, 32, 0, .null, [], [])), (32, (.iload 4, 34, 0, .null, [], [])), (34, (.if_icmp .ne 7, 37, 41, .null, [], [])), (37, (.iconst 1, 38, 0, .int (1), [], [])), (38, (.goto 4, 41, 42, .null, [], [])), (41, (.iconst 0, 42, 0, .int (0), [], [])), (42, (.istore_n 2, 43, 0, .null, [], [])), (43, (.iconst 0, 44, 0, .int (0), [], [])), (44, (.istore 5, 46, 0, .null, [], [])), (46, (.iload 5, 48, 0, .null, [], [])), (48, (.iload 4, 50, 0, .null, [], [])), (50, (.if_icmp .ge 44, 53, 94, .null, [], [])), (53, (.iload_n 2, 54, 0, .null, [], [])), (54, (.ifCond .eq 40, 57, 94, .null, [], [])), (57, (.aload_n 0, 58, 0, .null, [], [])), (58, (.iload_n 3, 59, 0, .null, [], [])), (59, (.iload_n 3, 60, 0, .null, [], [])), (60, (.iload 5, 62, 0, .null, [], [])), (62, (.iload_n 1, 63, 0, .null, [], [])), (63, (.iconst 5, 64, 0, .int (5), [], [])), (64, (.iload 5, 66, 0, .null, [], [])), (66, (.iadd, 67, 0, .null, [], [])), (67, (.ishr, 68, 0, .null, [], [])), (68, (.bipush 9, 70, 0, .int (9), [], [])), (70, (.invokestatic 15, 73, 0, .null, [], [])), (73, (.iconst 2, 74, 0, .int (2), [], [])), (74, (.isub, 75, 0, .null, [], [])), (75, (.invokevirtual 67, 78, 0, .null, [], [])), (78, (.iconst 1, 79, 0, .int (1), [], [])), (79, (.if_icmp .ne 7, 82, 86, .null, [], [])), (82, (.iconst 1, 83, 0, .int (1), [], [])), (83, (.goto 4, 86, 87, .null, [], [])), (86, (.iconst 0, 87, 0, .int (0), [], [])), (87, (.istore_n 2, 88, 0, .null, [], [])), (88, (.iinc 5 1, 91, 0, .int (1), [], [])), (91, (.goto (-45), 94, 46, .null, [], [])), (94, (.iinc 3 1, 97, 0, .int (1), [], [])), (97, (.goto (-93), 100, 4, .null, [], [])), (100, (.iload_n 2, 101, 0, .null, [], [])), (101, (.ireturn, 102, 0, .null, [], []))]
noncomputable abbrev jL_sheets (ns : Nat) : List (Nat × sf_J (Int32 × sf_S)) := [(19, sf_jI (sf_layW ns) [] 2 (gL_up ns)), (29, sf_jI (sf_layW ns) [9] 4 gW_sheet), (70, sf_jI (sf_layW ns) [] 2 (gL_up ns)), (75, sf_jI (sf_layW ns) [9] 5 gW_lay)]
abbrev wL_sheets_46 {ρ : Type} (r0 : Nat) (k : Int32 → Int32 → Int32 → Int32 → Int32 → sf_S → Option ρ) : sf_M ρ := fun L st σ => sf_lda L 0 fun a0 => sf_eq a0 r0 (sf_ldi L 1 fun x1 => sf_ldi L 2 fun x2 => sf_ldi L 3 fun x3 => sf_ldi L 4 fun x4 => sf_ldi L 5 fun x5 => sf_nil st (k x1 x2 x3 x4 x5 σ))
theorem wL_sheets_46_ok {ρ : Type} {Wt : Nat → sf_L → List Value → sf_S → Prop} {Post : ρ → Prop} (hm : sf_mono Wt) {r0 : Nat} {k : Int32 → Int32 → Int32 → Int32 → Int32 → sf_S → Option ρ} (h : ∀ (x1 : Int32) (x2 : Int32) (x3 : Int32) (x4 : Int32) (x5 : Int32) (σ : sf_S) (u : ρ), k x1 x2 x3 x4 x5 σ = some u → Post u → Wt 46 [(0, some (.ref r0)), (1, some (.int x1)), (2, some (.int x2)), (3, some (.int x3)), (4, some (.int x4)), (5, some (.int x5))] [] σ) : sf_CK Wt Post 46 (wL_sheets_46 r0 k) := by
  intro L st σ u hf hp
  unfold wL_sheets_46 at hf
  have hf0 := hf
  obtain ⟨a0, e0, hf1⟩ := sf_lda_inv hf0
  obtain ⟨rfl, hf2⟩ := sf_eq_inv hf1
  obtain ⟨x1, e1, hf3⟩ := sf_ldi_inv hf2
  obtain ⟨x2, e2, hf4⟩ := sf_ldi_inv hf3
  obtain ⟨x3, e3, hf5⟩ := sf_ldi_inv hf4
  obtain ⟨x4, e4, hf6⟩ := sf_ldi_inv hf5
  obtain ⟨x5, e5, hf7⟩ := sf_ldi_inv hf6
  obtain ⟨rfl, hz⟩ := sf_nil_inv hf7
  exact hm _ [(0, some (.ref _)), (1, some (.int x1)), (2, some (.int x2)), (3, some (.int x3)), (4, some (.int x4)), (5, some (.int x5))] _ _ _ (sf_le_ok (And.intro e0 (And.intro e1 (And.intro e2 (And.intro e3 (And.intro e4 (And.intro e5 trivial))))))) (h _ _ _ _ _ _ _ hz hp)
abbrev wL_sheets_4 {ρ : Type} (r0 : Nat) (k : Int32 → Int32 → Int32 → sf_S → Option ρ) : sf_M ρ := fun L st σ => sf_lda L 0 fun a0 => sf_eq a0 r0 (sf_ldi L 1 fun x1 => sf_ldi L 2 fun x2 => sf_ldi L 3 fun x3 => sf_nil st (k x1 x2 x3 σ))
theorem wL_sheets_4_ok {ρ : Type} {Wt : Nat → sf_L → List Value → sf_S → Prop} {Post : ρ → Prop} (hm : sf_mono Wt) {r0 : Nat} {k : Int32 → Int32 → Int32 → sf_S → Option ρ} (h : ∀ (x1 : Int32) (x2 : Int32) (x3 : Int32) (σ : sf_S) (u : ρ), k x1 x2 x3 σ = some u → Post u → Wt 4 [(0, some (.ref r0)), (1, some (.int x1)), (2, some (.int x2)), (3, some (.int x3))] [] σ) : sf_CK Wt Post 4 (wL_sheets_4 r0 k) := by
  intro L st σ u hf hp
  unfold wL_sheets_4 at hf
  have hf0 := hf
  obtain ⟨a0, e0, hf1⟩ := sf_lda_inv hf0
  obtain ⟨rfl, hf2⟩ := sf_eq_inv hf1
  obtain ⟨x1, e1, hf3⟩ := sf_ldi_inv hf2
  obtain ⟨x2, e2, hf4⟩ := sf_ldi_inv hf3
  obtain ⟨x3, e3, hf5⟩ := sf_ldi_inv hf4
  obtain ⟨rfl, hz⟩ := sf_nil_inv hf5
  exact hm _ [(0, some (.ref _)), (1, some (.int x1)), (2, some (.int x2)), (3, some (.int x3))] _ _ _ (sf_le_ok (And.intro e0 (And.intro e1 (And.intro e2 (And.intro e3 trivial))))) (h _ _ _ _ _ hz hp)
noncomputable def dL_sheets_46 (ns : Nat) (r0 : Nat) (K4 : Int32 → Int32 → Int32 → sf_S → Option (Int32 × sf_S)) : Nat → Int32 → Int32 → Int32 → Int32 → Int32 → sf_S → Option (Int32 × sf_S)
  | 0 => fun _ _ _ _ _ _ => none
  | n + 1 => fun x1 x2 x3 x4 x5 σ =>
    if x4 ≤ x5 then
      K4 x1 x2 (x3 + (1 : Int32)) σ
    else
      if x2 = 0 then
        K4 x1 x2 (x3 + (1 : Int32)) σ
      else
        (dL_up ns (x1 >>> (((5 : Int32) + x5) &&& 31)) (9 : Int32) σ).bind fun u1 =>
        (dW_lay r0 x3 x3 x5 (u1.1 - (2 : Int32)) u1.2).bind fun u2 =>
        if ¬ u2.1 = (1 : Int32) then
          dL_sheets_46 ns r0 K4 n x1 (0 : Int32) x3 x4 (x5 + (1 : Int32)) u2.2
        else
          dL_sheets_46 ns r0 K4 n x1 (1 : Int32) x3 x4 (x5 + (1 : Int32)) u2.2
set_option maxRecDepth 100000 in
set_option maxHeartbeats 4000000 in
theorem rL_sheets_46 {Wt : Nat → sf_L → List Value → sf_S → Prop} {Post : (Int32 × sf_S) → Prop} {ns : Nat} (hs : sf_Snd Wt (sf_layW ns) sf_hZ (jL_sheets ns) tL_sheets Post) (hm : sf_mono Wt) {r0 : Nat} (hq : r0 = 0 ∨ r0 = 59) {K4 : Int32 → Int32 → Int32 → sf_S → Option (Int32 × sf_S)} (hK4 : sf_CK Wt Post 4 (wL_sheets_4 r0 K4)) : ∀ n : Nat, sf_CK Wt Post 46 (wL_sheets_46 r0 (dL_sheets_46 ns r0 K4 n)) := by
  intro n
  induction n with
  | zero => exact wL_sheets_46_ok hm (fun x1 x2 x3 x4 x5 σ u h _ => by simp [dL_sheets_46] at h)
  | succ n ih =>
    refine wL_sheets_46_ok hm ?_
    intro x1 x2 x3 x4 x5 σ u h hp
    rcases hq with rfl | rfl
    · exact sf_run_ok hs (sf_sm_cons hK4 (sf_sm_cons ih sf_sm_nil)) 66 46 _ _ σ u h hp
    · exact sf_run_ok hs (sf_sm_cons hK4 (sf_sm_cons ih sf_sm_nil)) 66 46 _ _ σ u h hp
noncomputable def dL_sheets_4 (ns : Nat) (r0 : Nat) : Nat → Int32 → Int32 → Int32 → sf_S → Option (Int32 × sf_S)
  | 0 => fun _ _ _ _ => none
  | n + 1 => fun x1 x2 x3 σ =>
    if (3 : Int32) ≤ x3 then
      if sf_01 x2 then some (x2, σ) else none
    else
      if x2 = 0 then
        if sf_01 x2 then some (x2, σ) else none
      else
        (dL_up ns (x1 >>> (((3 : Int32) * x3) &&& 31)) (5 : Int32) σ).bind fun u1 =>
        (dW_sheet r0 x3 x3 u1.1 u1.2).bind fun u2 =>
        if ¬ u2.1 = u1.1 then
          dL_sheets_46 ns r0 (dL_sheets_4 ns r0 n) sf_F x1 (0 : Int32) x3 u1.1 (0 : Int32) u2.2
        else
          dL_sheets_46 ns r0 (dL_sheets_4 ns r0 n) sf_F x1 (1 : Int32) x3 u1.1 (0 : Int32) u2.2
set_option maxRecDepth 100000 in
set_option maxHeartbeats 4000000 in
theorem rL_sheets_4 {Wt : Nat → sf_L → List Value → sf_S → Prop} {Post : (Int32 × sf_S) → Prop} {ns : Nat} (hs : sf_Snd Wt (sf_layW ns) sf_hZ (jL_sheets ns) tL_sheets Post) (hm : sf_mono Wt) {r0 : Nat} (hq : r0 = 0 ∨ r0 = 59) : ∀ n : Nat, sf_CK Wt Post 4 (wL_sheets_4 r0 (dL_sheets_4 ns r0 n)) := by
  intro n
  induction n with
  | zero => exact wL_sheets_4_ok hm (fun x1 x2 x3 σ u h _ => by simp [dL_sheets_4] at h)
  | succ n ih =>
    refine wL_sheets_4_ok hm ?_
    intro x1 x2 x3 σ u h hp
    rcases hq with rfl | rfl
    · exact sf_run_ok hs (sf_sm_cons (rL_sheets_46 hs hm (Or.inl rfl) ih sf_F) sf_sm_nil) 66 4 _ _ σ u h hp
    · exact sf_run_ok hs (sf_sm_cons (rL_sheets_46 hs hm (Or.inr rfl) ih sf_F) sf_sm_nil) 66 4 _ _ σ u h hp
noncomputable def dL_sheets (ns : Nat) (r0 : Nat) (x1 : Int32) (σ : sf_S) : Option (Int32 × sf_S) :=
  dL_sheets_4 ns r0 sf_F x1 (1 : Int32) (0 : Int32) σ
noncomputable abbrev gL_sheets (ns : Nat) (av : List Value) (σ : sf_S) : Option (Int32 × sf_S) := match av with
  | [.ref r0, .int x1] => (match sf_rv [0, 59] r0 with | true => dL_sheets ns r0 x1 σ | false => none)
  | _ => none
set_option maxRecDepth 100000 in
set_option maxHeartbeats 4000000 in
theorem rL_sheets {Wt : Nat → sf_L → List Value → sf_S → Prop} {Post : (Int32 × sf_S) → Prop} {ns : Nat} (hs : sf_Snd Wt (sf_layW ns) sf_hZ (jL_sheets ns) tL_sheets Post) (hm : sf_mono Wt) : ∀ av σ u, gL_sheets ns av σ = some u → Post u → (∀ ad, (lg_sl (av.map (sf_v ad))).length ≤ 6) ∧ Wt 0 (sf_ent 0 av) [] σ := by
  intro av σ u h hp
  unfold gL_sheets at h
  split at h
  · rename_i r0 x1
    split at h
    · rename_i hq
      have hq : r0 = 0 ∨ r0 = 59 := by simpa using sf_rv_mem hq
      refine ⟨fun ad => Nat.le_of_ble_eq_true rfl, ?_⟩
      rcases hq with rfl | rfl
      · exact sf_run_ok hs (sf_sm_cons (rL_sheets_4 hs hm (Or.inl rfl) sf_F) sf_sm_nil) 66 0 _ _ σ u h hp
      · exact sf_run_ok hs (sf_sm_cons (rL_sheets_4 hs hm (Or.inr rfl) sf_F) sf_sm_nil) 66 0 _ _ σ u h hp
    · cases h
  · cases h
theorem kL_sheets (l : Launch) (ns : Nat) : so_C l (sf_layW ns) yL_sheets cL_sheets 6 (some .boolean) (sf_rm 4 170) (fun av σ => (gL_sheets ns av σ).map sf_vI) :=
  so_met (tab := tL_sheets) (J := jL_sheets ns) (fl := []) (cl := sf_clL) (by decide +kernel) ⟨rfl, rfl⟩ sf_RH_Z (by decide +kernel) (fun _ _ _ _ _ h => absurd h List.not_mem_nil) sf_clL_ok
    (so_JO_cons (so_je_S (n := 2) (tv := sf_vI) (kL_up l ns) mwL_up (by decide +kernel : decode cL_sheets 19 = .ok (.invokestatic 15, 3)) wt_932 wt_933 (by decide +kernel) (so_RM_of (by omega) (by omega))) (so_JO_cons (so_je_V (n := 4) (cs := [9]) (tv := sf_vI) (kW_sheet l ns) mwX11_sheet (by decide +kernel : decode cL_sheets 29 = .ok (.invokevirtual 63, 3)) wt_1025 wt_1026 wt_1027 (by decide +kernel) (by decide) (by decide) (List.forall_mem_cons.mpr ⟨⟨_, _, rfl⟩, fun _ h => absurd h List.not_mem_nil⟩) (so_RM_of (by omega) (by omega))) (so_JO_cons (so_je_S (n := 2) (tv := sf_vI) (kL_up l ns) mwL_up (by decide +kernel : decode cL_sheets 70 = .ok (.invokestatic 15, 3)) wt_932 wt_933 (by decide +kernel) (so_RM_of (by omega) (by omega))) (so_JO_cons (so_je_V (n := 5) (cs := [9]) (tv := sf_vI) (kW_lay l ns) mwX11_lay (by decide +kernel : decode cL_sheets 75 = .ok (.invokevirtual 67, 3)) wt_1041 wt_1042 wt_1043 (by decide +kernel) (by decide) (by decide) (List.forall_mem_cons.mpr ⟨⟨_, _, rfl⟩, fun _ h => absurd h List.not_mem_nil⟩) (so_RM_of (by omega) (by omega))) (so_JO_nil)))))
    (fun Wt Post hs hm => rL_sheets hs hm)
-- ===== StreamFuserLaw.law([I)Z =====
abbrev tL_law : List (Nat × sf_E) := [(23, (.iconst 1, 24, 0, .int (1), [], [])), (24, (.bipush 20, 26, 0, .int (20), [], [])), (26, (.iload_n 1, 27, 0, .null, [], [])), (27, (.imul, 28, 0, .null, [], [])), (28, (.iadd, 29, 0, .null, [], [])), (29, (.istore 4, 31, 0, .null, [], [])), (31, (.aload_n 0, 32, 0, .null, [], [])), (32, (.iconst 0, 33, 0, .int (0), [], [])), (33, (.invokestatic 25, 36, 0, .null, [], [])), (36, (.bipush 7, 38, 0, .int (7), [], [])), (38, (.iload_n 1, 39, 0, .null, [], [])), (39, (.imul, 40, 0, .null, [], [])), (40, (.ishr, 41, 0, .null, [], [])), (41, (.istore 5, 43, 0, .null, [], [])), (43, (.aload_n 2, 44, 0, .null, [], [])), (44, (.aload_n 0, 45, 0, .null, [], [])), (45, (.iload 4, 47, 0, .null, [], [])), (47, (.invokestatic 72, 50, 0, .null, [], [])), (50, (.istore 6, 52, 0, .null, [], [])), (52, (.iload 6, 54, 0, .null, [], [])), (54, (.iconst 1, 55, 0, .int (1), [], [])), (55, (.if_icmp .lt 33, 58, 88, .null, [], [])), (58, (.aload_n 3, 59, 0, .null, [], [])), (59, (.aload_n 0, 60, 0, .null, [], [])), (60, (.iload 4, 62, 0, .null, [], [])), (62, (.invokestatic 72, 65, 0, .null, [], [])), (65, (.iload 6, 67, 0, .null, [], [])), (67, (.if_icmp .ne 21, 70, 88, .null, [], [])), (70, (.aload_n 2, 71, 0, .null, [], [])), (71, (.iload 5, 73, 0, .null, [], [])), (73, (.invokestatic 76, 76, 0, .null, [], [])), (76, (.ifCond .eq 12, 79, 88, .null, [], [])), (79, (.aload_n 3, 80, 0, .null, [], [])), (80, (.iload 5, 82, 0, .null, [], [])), (82, (.invokestatic 76, 85, 0, .null, [], [])), (85, (.ifCond .ne 5, 88, 90, .null, [], [])), (88, (.iconst 0, 89, 0, .int (0), [], [])), (89, (.ireturn, 90, 0, .null, [], [])), (90, (.iload 5, 92, 0, .null, [], [])), (92, (.bipush 41, 94, 0, .int (41), [], [])), (94, (.invokestatic 15, 97, 0, .null, [], [])), (97, (.istore 7, 99, 0, .null, [], [])), (99, (.aload_n 2, 100, 0, .null, [], [])), (100, (.iconst 0, 101, 0, .int (0), [], [])), (101, (.iload 7, 103, 0, .null, [], [])), (103, (.invokevirtual 80, 106, 0, .null, [], [])), (106, (.istore 8, 108, 0, .null, [], [])), (108, (.aload_n 3, 109, 0, .null, [], [])), (109, (.iconst 1, 110, 0, .int (1), [], [])), (110, (.iload 7, 112, 0, .null, [], [])), (112, (.invokevirtual 80, 115, 0, .null, [], [])), (115, (.iload 8, 117, 0, .null, [], [])), (117, (.if_icmp .ne 84, 120, 201, .null, [], [])), (120, (.aload_n 2, 121, 0, .null, [], [])), (121, (.aload_n 3, 122, 0, .null, [], [])), (122, (.invokestatic 83, 125, 0, .null, [], [])), (125, (.ifCond .eq 76, 128, 201, .null, [], [])), (128, (.aload_n 2, 129, 0, .null, [], [])), (129, (.iconst 0, 130, 0, .int (0), [], [])), (130, (.invokevirtual 53, 133, 0, .null, [], [])), (133, (.aload_n 3, 134, 0, .null, [], [])), (134, (.iconst 0, 135, 0, .int (0), [], [])), (135, (.invokevirtual 53, 138, 0, .null, [], [])), (138, (.if_icmp .ne 63, 141, 201, .null, [], [])), (141, (.aload_n 2, 142, 0, .null, [], [])), (142, (.iconst 0, 143, 0, .int (0), [], [])), (143, (.invokevirtual 53, 146, 0, .null, [], [])), (146, (.sipush 500, 149, 0, .int (500), [], [])), (149, (.if_icmp .gt 52, 152, 201, .null, [], [])), (152, (.aload_n 2, 153, 0, .null, [], [])), (153, (.iconst 0, 154, 0, .int (0), [], [])), (154, (.invokevirtual 60, 157, 0, .null, [], [])), (157, (.iconst 3, 158, 0, .int (3), [], [])), (158, (.if_icmp .ne 14, 161, 172, .null, [], [])), (161, (.aload_n 2, 162, 0, .null, [], [])), (162, (.iconst 0, 163, 0, .int (0), [], [])), (163, (.invokevirtual 53, 166, 0, .null, [], [])), (166, (.sipush 500, 169, 0, .int (500), [], [])), (169, (.if_icmp .ne 32, 172, 201, .null, [], [])), (172, (.aload_n 2, 173, 0, .null, [], [])), (173, (.iconst 0, 174, 0, .int (0), [], [])), (174, (.invokevirtual 60, 177, 0, .null, [], [])), (177, (.iconst 4, 178, 0, .int (4), [], [])), (178, (.if_icmp .eq 23, 181, 201, .null, [], [])), (181, (.aload_n 2, 182, 0, .null, [], [])), (182, (.iconst 1, 183, 0, .int (1), [], [])), (183, (.invokevirtual 53, 186, 0, .null, [], [])), (186, (.iload 8, 188, 0, .null, [], [])), (188, (.if_icmp .lt 13, 191, 201, .null, [], [])), (191, (.aload_n 3, 192, 0, .null, [], [])), (192, (.iconst 1, 193, 0, .int (1), [], [])), (193, (.invokevirtual 53, 196, 0, .null, [], [])), (196, (.iload 8, 198, 0, .null, [], [])), (198, (.if_icmp .ge 5, 201, 203, .null, [], [])), (201, (.iconst 0, 202, 0, .int (0), [], [])), (202, (.ireturn, 203, 0, .null, [], [])), (203, (.aload_n 2, 204, 0, .null, [], [])), (204, (.iconst 0, 205, 0, .int (0), [], [])), (205, (.invokevirtual 60, 208, 0, .null, [], [])), (208, (.istore 9, 210, 0, .null, [], [])), (210, (.aload_n 2, 211, 0, .null, [], [])), (211, (.iconst 0, 212, 0, .int (0), [], [])), (212, (.invokevirtual 53, 215, 0, .null, [], [])), (215, (.istore 10, 217, 0, .null, [], [])), (217, (.iload 7, 219, 0, .null, [], [])), (219, (.iconst 2, 220, 0, .int (2), [], [])), (220, (.idiv, 221, 0, .null, [], [])), (221, (.istore 11, 223, 0, .null, [], [])), (223, (.aload_n 3, 224, 0, .null, [], [])), (224, (.iconst 0, 225, 0, .int (0), [], [])), (225, (.iload 11, 227, 0, .null, [], [])), (227, (.invokevirtual 80, 230, 0, .null, [], [])), (230, (.istore 12, 232, 0, .null, [], [])), (232, (.iload 12, 234, 0, .null, [], [])), (234, (.iload 8, 236, 0, .null, [], [])), (236, (.iload 11, 238, 0, .null, [], [])), (238, (.if_icmp .ge 8, 241, 246, .null, [], [])), (241, (.iload 8, 243, 0, .null, [], [])), (243, (.goto 5, 246, 248, .null, [], [])), (246, (.iload 11, 248, 0, .null, [], [])), (248, (.if_icmp .ne 13, 251, 261, .null, [], [])), (251, (.aload_n 3, 252, 0, .null, [], [])), (252, (.iconst 0, 253, 0, .int (0), [], [])), (253, (.invokevirtual 53, 256, 0, .null, [], [])), (256, (.iload 10, 258, 0, .null, [], [])), (258, (.if_icmp .le 5, 261, 263, .null, [], [])), (261, (.iconst 0, 262, 0, .int (0), [], [])), (262, (.ireturn, 263, 0, .null, [], [])), (263, (.iconst 0, 264, 0, .int (0), [], [])), (264, (.istore 13, 266, 0, .null, [], [])), (266, (.iload 13, 268, 0, .null, [], [])), (268, (.iload 12, 270, 0, .null, [], [])), (270, (.if_icmp .ge 27, 273, 297, .null, [], [])), (273, (.aload_n 3, 274, 0, .null, [], [])), (274, (.iload 13, 276, 0, .null, [], [])), (276, (.invokevirtual 49, 279, 0, .null, [], [])), (279, (.aload_n 2, 280, 0, .null, [], [])), (280, (.iload 13, 282, 0, .null, [], [])), (282, (.invokevirtual 49, 285, 0, .null, [], [])), (285, (.lcmp, 286, 0, .null, [], [])), (286, (.ifCond .eq 5, 289, 291, .null, [], [])), (289, (.iconst 0, 290, 0, .int (0), [], [])), (290, (.ireturn, 291, 0, .null, [], [])), (291, (.iinc 13 1, 294, 0, .int (1), [], [])), (294, (.goto (-28), 297, 266, .null, [], [])), (297, (.iconst 1, 298, 0, .int (1), [], [])), (298, (.istore 13, 300, 0, .null, [], [])), (300, (.iconst 0, 301, 0, .int (0), [], [])), (301, (.istore 14, 303, 0, .null, [], [])), (303, (.iload 14, 305, 0, .null, [], [])), (305, (.iload 6, 307, 0, .null, [], [])), (307, (.if_icmp .ge 33, 310, 340, .null, [], [])), (310, (.iload 13, 312, 0, .null, [], [])), (312, (.ifCond .eq 19, 315, 331, .null, [], [])), (315, (.aload_n 2, 316, 0, .null, [], [])), (316, (.iload 14, 318, 0, .null, [], [])), (318, (.iconst 0, 319, 0, .int (0), [], [])), (319, (.invokevirtual 87, 322, 0, .null, [], [])), (322, (.bipush 105, 324, 0, .int (105), [], [])), (324, (.if_icmp .eq 7, 327, 331, .null, [], [])), (327, (.iconst 1, 328, 0, .int (1), [], [])), (328, (.goto 4, 331, 332, .null, [], [])), (331, (.iconst 0, 332, 0, .int (0), [], [])), (332, (.istore 13, 334, 0, .null, [], [])), (334, (.iinc 14 1, 337, 0, .int (1), [], [])), (337, (.goto (-34), 340, 303, .null, [], [])), (340, (.aload_n 3, 341, 0, .null, [], [])), (341, (.iconst 2, 342, 0, .int (2), [], [])), (342, (.iload 7, 344, 0, .null, [], [])), (344, (.invokevirtual 80, 347, 0, .null, [], [])), (347, (.istore 14, 349, 0, .null, [], [])), (349, (.iload 14, 351, 0, .null, [], [])), (351, (.bipush (-3), 353, 0, .int (-3), [], [])), (353, (.if_icmp .ne 7, 356, 360, .null, [], [])), (356, (.iconst 1, 357, 0, .int (1), [], [])), (357, (.goto 4, 360, 361, .null, [], [])), (360, (.iconst 0, 361, 0, .int (0), [], [])), (361, (.iload 13, 363, 0, .null, [], [])), (363, (.if_icmp .eq 38, 366, 401, .null, [], [])), (366, (.iload 13, 368, 0, .null, [], [])), (368, (.ifCond .eq 35, 371, 403, .null, [], [])), (371, (.aload_n 3, 372, 0, .null, [], [])), (372, (.iconst 0, 373, 0, .int (0), [], [])), (373, (.invokevirtual 60, 376, 0, .null, [], [])), (376, (.ifCond .ne 27, 379, 403, .null, [], [])), (379, (.iload 9, 381, 0, .null, [], [])), (381, (.ifCond .ne 20, 384, 401, .null, [], [])), (384, (.iload 14, 386, 0, .null, [], [])), (386, (.iload 8, 388, 0, .null, [], [])), (388, (.if_icmp .ne 13, 391, 401, .null, [], [])), (391, (.aload_n 3, 392, 0, .null, [], [])), (392, (.iconst 0, 393, 0, .int (0), [], [])), (393, (.invokevirtual 53, 396, 0, .null, [], [])), (396, (.iload 10, 398, 0, .null, [], [])), (398, (.if_icmp .ge 5, 401, 403, .null, [], [])), (401, (.iconst 0, 402, 0, .int (0), [], [])), (402, (.ireturn, 403, 0, .null, [], [])), (403, (.iconst 0, 404, 0, .int (0), [], [])), (404, (.istore 15, 406, 0, .null, [], [])), (406, (.iload 15, 408, 0, .null, [], [])), (408, (.iload 8, 410, 0, .null, [], [])), (410, (.if_icmp .ge 40, 413, 450, .null, [], [])), (413, (.iload 13, 415, 0, .null, [], [])), (415, (.ifCond .eq 35, 418, 450, .null, [], [])), (418, (.aload_n 3, 419, 0, .null, [], [])), (419, (.iconst 0, 420, 0, .int (0), [], [])), (420, (.invokevirtual 60, 423, 0, .null, [], [])), (423, (.ifCond .ne 27, 426, 450, .null, [], [])), (426, (.aload_n 3, 427, 0, .null, [], [])), (427, (.iload 15, 429, 0, .null, [], [])), (429, (.invokevirtual 49, 432, 0, .null, [], [])), (432, (.aload_n 2, 433, 0, .null, [], [])), (433, (.iload 15, 435, 0, .null, [], [])), (435, (.invokevirtual 49, 438, 0, .null, [], [])), (438, (.lcmp, 439, 0, .null, [], [])), (439, (.ifCond .eq 5, 442, 444, .null, [], [])), (442, (.iconst 0, 443, 0, .int (0), [], [])), (443, (.ireturn, 444, 0, .null, [], [])), (444, (.iinc 15 1, 447, 0, .int (1), [], [])), (447, (.goto (-41), 450, 406, .null, [], [])), (450, (.aload_n 2, 451, 0, .null, [], [])), (451, (.iload 7, 453, 0, .null, [], [])), (453, (.invokevirtual 90, 456, 0, .null, [], [])), (456, (.istore 15, 458, 0, .null, [], [])), (458, (.aload_n 2, 459, 0, .null, [], [])), (459, (.iconst 0, 460, 0, .int (0), [], [])), (460, (.invokevirtual 93, 463, 0, .null, [], [])), (463, (.istore 16, 465, 0, .null, [], [])), (465, (.aload_n 3, 466, 0, .null, [], [])), (466, (.iconst 1, 467, 0, .int (1), [], [])), (467, (.invokevirtual 93, 470, 0, .null, [], [])), (470, (.istore 17, 472, 0, .null, [], [])), (472, (.aload_n 2, 473, 0, .null, [], [])), (473, (.iconst (-1), 474, 0, .int (-1), [], [])), (474, (.invokevirtual 43, 477, 0, .null, [], [])), (477, (.istore 18, 479, 0, .null, [], [])), (479, (.iload 15, 481, 0, .null, [], [])), (481, (.ifCond .lt 72, 484, 553, .null, [], [])), (484, (.iload 16, 486, 0, .null, [], [])), (486, (.ifCond .lt 67, 489, 553, .null, [], [])), (489, (.iload 17, 491, 0, .null, [], [])), (491, (.ifCond .lt 62, 494, 553, .null, [], [])), (494, (.iload 16, 496, 0, .null, [], [])), (496, (.ifCond .le 7, 499, 503, .null, [], [])), (499, (.iconst 1, 500, 0, .int (1), [], [])), (500, (.goto 4, 503, 504, .null, [], [])), (503, (.iconst 0, 504, 0, .int (0), [], [])), (504, (.iload 17, 506, 0, .null, [], [])), (506, (.ifCond .le 7, 509, 513, .null, [], [])), (509, (.iconst 1, 510, 0, .int (1), [], [])), (510, (.goto 4, 513, 514, .null, [], [])), (513, (.iconst 0, 514, 0, .int (0), [], [])), (514, (.if_icmp .ne 39, 517, 553, .null, [], [])), (517, (.aload_n 3, 518, 0, .null, [], [])), (518, (.iconst (-1), 519, 0, .int (-1), [], [])), (519, (.invokevirtual 43, 522, 0, .null, [], [])), (522, (.iload 18, 524, 0, .null, [], [])), (524, (.if_icmp .ne 29, 527, 553, .null, [], [])), (527, (.aload_n 2, 528, 0, .null, [], [])), (528, (.iconst 0, 529, 0, .int (0), [], [])), (529, (.invokevirtual 46, 532, 0, .null, [], [])), (532, (.iload 6, 534, 0, .null, [], [])), (534, (.if_icmp .gt 19, 537, 553, .null, [], [])), (537, (.aload_n 2, 538, 0, .null, [], [])), (538, (.iconst 1, 539, 0, .int (1), [], [])), (539, (.invokevirtual 93, 542, 0, .null, [], [])), (542, (.ifCond .ne 11, 545, 553, .null, [], [])), (545, (.aload_n 3, 546, 0, .null, [], [])), (546, (.iconst 0, 547, 0, .int (0), [], [])), (547, (.invokevirtual 93, 550, 0, .null, [], [])), (550, (.ifCond .eq 5, 553, 555, .null, [], [])), (553, (.iconst 0, 554, 0, .int (0), [], [])), (554, (.ireturn, 555, 0, .null, [], [])), (555, (.iconst 0, 556, 0, .int (0), [], [])), (556, (.istore 19, 558, 0, .null, [], [])), (558, (.iload 19, 560, 0, .null, [], [])), (560, (.iload 18, 562, 0, .null, [], [])), (562, (.if_icmp .ge 26, 565, 588, .null, [], [])), (565, (.aload_n 2, 566, 0, .null, [], [])), (566, (.iload 19, 568, 0, .null, [], [])), (568, (.invokevirtual 43, 571, 0, .null, [], [])), (571, (.aload_n 3, 572, 0, .null, [], [])), (572, (.iload 19, 574, 0, .null, [], [])), (574, (.invokevirtual 43, 577, 0, .null, [], [])), (577, (.if_icmp .eq 5, 580, 582, .null, [], [])), (580, (.iconst 0, 581, 0, .int (0), [], [])), (581, (.ireturn, 582, 0, .null, [], [])), (582, (.iinc 19 1, 585, 0, .int (1), [], [])), (585, (.goto (-27), 588, 558, .null, [], [])), (588, (.iconst 0, 589, 0, .int (0), [], [])), (589, (.istore 19, 591, 0, .null, [], [])), (591, (.iload 19, 593, 0, .null, [], [])), (593, (.aload_n 2, 594, 0, .null, [], [])), (594, (.iconst 0, 595, 0, .int (0), [], [])), (595, (.invokevirtual 46, 598, 0, .null, [], [])), (598, (.if_icmp .ge 45, 601, 643, .null, [], [])), (601, (.aload_n 2, 602, 0, .null, [], [])), (602, (.iload 19, 604, 0, .null, [], [])), (604, (.iconst 5, 605, 0, .int (5), [], [])), (605, (.invokevirtual 87, 608, 0, .null, [], [])), (608, (.aload_n 3, 609, 0, .null, [], [])), (609, (.iload 19, 611, 0, .null, [], [])), (611, (.iconst 5, 612, 0, .int (5), [], [])), (612, (.invokevirtual 87, 615, 0, .null, [], [])), (615, (.if_icmp .ne 20, 618, 635, .null, [], [])), (618, (.aload_n 2, 619, 0, .null, [], [])), (619, (.iload 19, 621, 0, .null, [], [])), (621, (.iconst 4, 622, 0, .int (4), [], [])), (622, (.invokevirtual 87, 625, 0, .null, [], [])), (625, (.aload_n 3, 626, 0, .null, [], [])), (626, (.iload 19, 628, 0, .null, [], [])), (628, (.iconst 4, 629, 0, .int (4), [], [])), (629, (.invokevirtual 87, 632, 0, .null, [], [])), (632, (.if_icmp .eq 5, 635, 637, .null, [], [])), (635, (.iconst 0, 636, 0, .int (0), [], [])), (636, (.ireturn, 637, 0, .null, [], [])), (637, (.iinc 19 1, 640, 0, .int (1), [], [])), (640, (.goto (-49), 643, 591, .null, [], [])), (643, (.aload_n 2, 644, 0, .null, [], [])), (644, (.iconst 0, 645, 0, .int (0), [], [])), (645, (.invokevirtual 53, 648, 0, .null, [], [])), (648, (.iload 10, 650, 0, .null, [], [])), (650, (.if_icmp .ne 40, 653, 690, .null, [], [])), (653, (.aload_n 3, 654, 0, .null, [], [])), (654, (.iconst 1, 655, 0, .int (1), [], [])), (655, (.iload 7, 657, 0, .null, [], [])), (657, (.invokevirtual 80, 660, 0, .null, [], [])), (660, (.ifCond .lt 30, 663, 690, .null, [], [])), (663, (.aload_n 3, 664, 0, .null, [], [])), (664, (.iconst 0, 665, 0, .int (0), [], [])), (665, (.invokevirtual 53, 668, 0, .null, [], [])), (668, (.iload 10, 670, 0, .null, [], [])), (670, (.iload 15, 672, 0, .null, [], [])), (672, (.isub, 673, 0, .null, [], [])), (673, (.if_icmp .ne 17, 676, 690, .null, [], [])), (676, (.iload 9, 678, 0, .null, [], [])), (678, (.iconst 3, 679, 0, .int (3), [], [])), (679, (.if_icmp .eq 13, 682, 692, .null, [], [])), (682, (.aload_n 2, 683, 0, .null, [], [])), (683, (.aload_n 3, 684, 0, .null, [], [])), (684, (.invokestatic 83, 687, 0, .null, [], [])), (687, (.ifCond .ne 5, 690, 692, .null, [], [])), (690, (.iconst 0, 691, 0, .int (0), [], [])), (691, (.ireturn, 692, 0, .null, [], [])), (692, (.aload_n 2, 693, 0, .null, [], [])), (693, (.iconst 0, 694, 0, .int (0), [], [])), (694, (.iload 7, 696, 0, .null, [], [])), (696, (.invokevirtual 80, 699, 0, .null, [], [])), (699, (.aload_n 3, 700, 0, .null, [], [])), (700, (.iconst 2, 701, 0, .int (2), [], [])), (701, (.invokevirtual 46, 704, 0, .null, [], [])), (704, (.if_icmp .ne 33, 707, 737, .null, [], [])), (707, (.aload_n 2, 708, 0, .null, [], [])), (708, (.aload_n 3, 709, 0, .null, [], [])), (709, (.invokestatic 83, 712, 0, .null, [], [])), (712, (.ifCond .eq 25, 715, 737, .null, [], [])), (715, (.aload_n 2, 716, 0, .null, [], [])), (716, (.iconst 0, 717, 0, .int (0), [], [])), (717, (.invokevirtual 53, 720, 0, .null, [], [])), (720, (.iload 10, 722, 0, .null, [], [])), (722, (.iload 15, 724, 0, .null, [], [])), (724, (.isub, 725, 0, .null, [], [])), (725, (.if_icmp .ne 12, 728, 737, .null, [], [])), (728, (.aload_n 2, 729, 0, .null, [], [])), (729, (.iload 7, 731, 0, .null, [], [])), (731, (.invokevirtual 90, 734, 0, .null, [], [])), (734, (.ifCond .eq 5, 737, 739, .null, [], [])), (737, (.iconst 0, 738, 0, .int (0), [], [])), (738, (.ireturn, 739, 0, .null, [], [])), (739, (.iinc 1 1, 742, 0, .int (1), [], []))]
noncomputable abbrev jL_law (ns : Nat) : List (Nat × sf_J (Int32 × sf_S)) := [(33, sf_jI (sf_layW ns) [] 2 (gL_cell ns)), (47, sf_jI (sf_layW ns) [] 3 (gL_plans ns)), (62, sf_jI (sf_layW ns) [] 3 (gL_plans ns)), (73, sf_jI (sf_layW ns) [] 2 (gL_sheets ns)), (82, sf_jI (sf_layW ns) [] 2 (gL_sheets ns)), (94, sf_jI (sf_layW ns) [] 2 (gL_up ns)), (103, sf_jI (sf_layW ns) [9] 3 gW_run), (112, sf_jI (sf_layW ns) [9] 3 gW_run), (122, sf_jI (sf_layW ns) [] 2 (gL_same ns)), (130, sf_jI (sf_layW ns) [9] 2 gW_told), (135, sf_jI (sf_layW ns) [9] 2 gW_told), (143, sf_jI (sf_layW ns) [9] 2 gW_told), (154, sf_jI (sf_layW ns) [9] 2 gW_failure), (163, sf_jI (sf_layW ns) [9] 2 gW_told), (174, sf_jI (sf_layW ns) [9] 2 gW_failure), (183, sf_jI (sf_layW ns) [9] 2 gW_told), (193, sf_jI (sf_layW ns) [9] 2 gW_told), (205, sf_jI (sf_layW ns) [9] 2 gW_failure), (212, sf_jI (sf_layW ns) [9] 2 gW_told), (227, sf_jI (sf_layW ns) [9] 3 gW_run), (253, sf_jI (sf_layW ns) [9] 2 gW_told), (276, sf_jL (sf_layW ns) [9] 2 gW_result), (282, sf_jL (sf_layW ns) [9] 2 gW_result), (319, sf_jI (sf_layW ns) [9] 3 gW_node), (344, sf_jI (sf_layW ns) [9] 3 gW_run), (373, sf_jI (sf_layW ns) [9] 2 gW_failure), (393, sf_jI (sf_layW ns) [9] 2 gW_told), (420, sf_jI (sf_layW ns) [9] 2 gW_failure), (429, sf_jL (sf_layW ns) [9] 2 gW_result), (435, sf_jL (sf_layW ns) [9] 2 gW_result), (453, sf_jI (sf_layW ns) [9] 2 gW_saves), (460, sf_jI (sf_layW ns) [9] 2 gW_tidy), (467, sf_jI (sf_layW ns) [9] 2 gW_tidy), (474, sf_jI (sf_layW ns) [9] 2 gW_text), (519, sf_jI (sf_layW ns) [9] 2 gW_text), (529, sf_jI (sf_layW ns) [9] 2 gW_count), (539, sf_jI (sf_layW ns) [9] 2 gW_tidy), (547, sf_jI (sf_layW ns) [9] 2 gW_tidy), (568, sf_jI (sf_layW ns) [9] 2 gW_text), (574, sf_jI (sf_layW ns) [9] 2 gW_text), (595, sf_jI (sf_layW ns) [9] 2 gW_count), (605, sf_jI (sf_layW ns) [9] 3 gW_node), (612, sf_jI (sf_layW ns) [9] 3 gW_node), (622, sf_jI (sf_layW ns) [9] 3 gW_node), (629, sf_jI (sf_layW ns) [9] 3 gW_node), (645, sf_jI (sf_layW ns) [9] 2 gW_told), (657, sf_jI (sf_layW ns) [9] 3 gW_run), (665, sf_jI (sf_layW ns) [9] 2 gW_told), (684, sf_jI (sf_layW ns) [] 2 (gL_same ns)), (696, sf_jI (sf_layW ns) [9] 3 gW_run), (701, sf_jI (sf_layW ns) [9] 2 gW_count), (709, sf_jI (sf_layW ns) [] 2 (gL_same ns)), (717, sf_jI (sf_layW ns) [9] 2 gW_told), (731, sf_jI (sf_layW ns) [9] 2 gW_saves)]
abbrev wL_law_692 {ρ : Type} (k : Int32 → Int32 → Int32 → Int32 → sf_S → Option ρ) : sf_M ρ := fun L st σ => sf_lda L 0 fun a0 => sf_eq a0 118 (sf_ldi L 1 fun x1 => sf_lda L 2 fun a2 => sf_eq a2 0 (sf_lda L 3 fun a3 => sf_eq a3 59 (sf_ldi L 7 fun x7 => sf_ldi L 10 fun x10 => sf_ldi L 15 fun x15 => sf_nil st (k x1 x7 x10 x15 σ))))
theorem wL_law_692_ok {ρ : Type} {Wt : Nat → sf_L → List Value → sf_S → Prop} {Post : ρ → Prop} (hm : sf_mono Wt) {k : Int32 → Int32 → Int32 → Int32 → sf_S → Option ρ} (h : ∀ (x1 : Int32) (x7 : Int32) (x10 : Int32) (x15 : Int32) (σ : sf_S) (u : ρ), k x1 x7 x10 x15 σ = some u → Post u → Wt 692 [(0, some (.ref 118)), (1, some (.int x1)), (2, some (.ref 0)), (3, some (.ref 59)), (7, some (.int x7)), (10, some (.int x10)), (15, some (.int x15))] [] σ) : sf_CK Wt Post 692 (wL_law_692 k) := by
  intro L st σ u hf hp
  unfold wL_law_692 at hf
  have hf0 := hf
  obtain ⟨a0, e0, hf1⟩ := sf_lda_inv hf0
  obtain ⟨rfl, hf2⟩ := sf_eq_inv hf1
  obtain ⟨x1, e1, hf3⟩ := sf_ldi_inv hf2
  obtain ⟨a2, e2, hf4⟩ := sf_lda_inv hf3
  obtain ⟨rfl, hf5⟩ := sf_eq_inv hf4
  obtain ⟨a3, e3, hf6⟩ := sf_lda_inv hf5
  obtain ⟨rfl, hf7⟩ := sf_eq_inv hf6
  obtain ⟨x7, e7, hf8⟩ := sf_ldi_inv hf7
  obtain ⟨x10, e10, hf9⟩ := sf_ldi_inv hf8
  obtain ⟨x15, e15, hf10⟩ := sf_ldi_inv hf9
  obtain ⟨rfl, hz⟩ := sf_nil_inv hf10
  exact hm _ [(0, some (.ref _)), (1, some (.int x1)), (2, some (.ref _)), (3, some (.ref _)), (7, some (.int x7)), (10, some (.int x10)), (15, some (.int x15))] _ _ _ (sf_le_ok (And.intro e0 (And.intro e1 (And.intro e2 (And.intro e3 (And.intro e7 (And.intro e10 (And.intro e15 trivial)))))))) (h _ _ _ _ _ _ hz hp)
abbrev wL_law_591 {ρ : Type} (k : Int32 → Int32 → Int32 → Int32 → Int32 → Int32 → sf_S → Option ρ) : sf_M ρ := fun L st σ => sf_lda L 0 fun a0 => sf_eq a0 118 (sf_ldi L 1 fun x1 => sf_lda L 2 fun a2 => sf_eq a2 0 (sf_lda L 3 fun a3 => sf_eq a3 59 (sf_ldi L 7 fun x7 => sf_ldi L 9 fun x9 => sf_ldi L 10 fun x10 => sf_ldi L 15 fun x15 => sf_ldi L 19 fun x19 => sf_nil st (k x1 x7 x9 x10 x15 x19 σ))))
theorem wL_law_591_ok {ρ : Type} {Wt : Nat → sf_L → List Value → sf_S → Prop} {Post : ρ → Prop} (hm : sf_mono Wt) {k : Int32 → Int32 → Int32 → Int32 → Int32 → Int32 → sf_S → Option ρ} (h : ∀ (x1 : Int32) (x7 : Int32) (x9 : Int32) (x10 : Int32) (x15 : Int32) (x19 : Int32) (σ : sf_S) (u : ρ), k x1 x7 x9 x10 x15 x19 σ = some u → Post u → Wt 591 [(0, some (.ref 118)), (1, some (.int x1)), (2, some (.ref 0)), (3, some (.ref 59)), (7, some (.int x7)), (9, some (.int x9)), (10, some (.int x10)), (15, some (.int x15)), (19, some (.int x19))] [] σ) : sf_CK Wt Post 591 (wL_law_591 k) := by
  intro L st σ u hf hp
  unfold wL_law_591 at hf
  have hf0 := hf
  obtain ⟨a0, e0, hf1⟩ := sf_lda_inv hf0
  obtain ⟨rfl, hf2⟩ := sf_eq_inv hf1
  obtain ⟨x1, e1, hf3⟩ := sf_ldi_inv hf2
  obtain ⟨a2, e2, hf4⟩ := sf_lda_inv hf3
  obtain ⟨rfl, hf5⟩ := sf_eq_inv hf4
  obtain ⟨a3, e3, hf6⟩ := sf_lda_inv hf5
  obtain ⟨rfl, hf7⟩ := sf_eq_inv hf6
  obtain ⟨x7, e7, hf8⟩ := sf_ldi_inv hf7
  obtain ⟨x9, e9, hf9⟩ := sf_ldi_inv hf8
  obtain ⟨x10, e10, hf10⟩ := sf_ldi_inv hf9
  obtain ⟨x15, e15, hf11⟩ := sf_ldi_inv hf10
  obtain ⟨x19, e19, hf12⟩ := sf_ldi_inv hf11
  obtain ⟨rfl, hz⟩ := sf_nil_inv hf12
  exact hm _ [(0, some (.ref _)), (1, some (.int x1)), (2, some (.ref _)), (3, some (.ref _)), (7, some (.int x7)), (9, some (.int x9)), (10, some (.int x10)), (15, some (.int x15)), (19, some (.int x19))] _ _ _ (sf_le_ok (And.intro e0 (And.intro e1 (And.intro e2 (And.intro e3 (And.intro e7 (And.intro e9 (And.intro e10 (And.intro e15 (And.intro e19 trivial)))))))))) (h _ _ _ _ _ _ _ _ hz hp)
abbrev wL_law_558 {ρ : Type} (k : Int32 → Int32 → Int32 → Int32 → Int32 → Int32 → Int32 → sf_S → Option ρ) : sf_M ρ := fun L st σ => sf_lda L 0 fun a0 => sf_eq a0 118 (sf_ldi L 1 fun x1 => sf_lda L 2 fun a2 => sf_eq a2 0 (sf_lda L 3 fun a3 => sf_eq a3 59 (sf_ldi L 7 fun x7 => sf_ldi L 9 fun x9 => sf_ldi L 10 fun x10 => sf_ldi L 15 fun x15 => sf_ldi L 18 fun x18 => sf_ldi L 19 fun x19 => sf_nil st (k x1 x7 x9 x10 x15 x18 x19 σ))))
theorem wL_law_558_ok {ρ : Type} {Wt : Nat → sf_L → List Value → sf_S → Prop} {Post : ρ → Prop} (hm : sf_mono Wt) {k : Int32 → Int32 → Int32 → Int32 → Int32 → Int32 → Int32 → sf_S → Option ρ} (h : ∀ (x1 : Int32) (x7 : Int32) (x9 : Int32) (x10 : Int32) (x15 : Int32) (x18 : Int32) (x19 : Int32) (σ : sf_S) (u : ρ), k x1 x7 x9 x10 x15 x18 x19 σ = some u → Post u → Wt 558 [(0, some (.ref 118)), (1, some (.int x1)), (2, some (.ref 0)), (3, some (.ref 59)), (7, some (.int x7)), (9, some (.int x9)), (10, some (.int x10)), (15, some (.int x15)), (18, some (.int x18)), (19, some (.int x19))] [] σ) : sf_CK Wt Post 558 (wL_law_558 k) := by
  intro L st σ u hf hp
  unfold wL_law_558 at hf
  have hf0 := hf
  obtain ⟨a0, e0, hf1⟩ := sf_lda_inv hf0
  obtain ⟨rfl, hf2⟩ := sf_eq_inv hf1
  obtain ⟨x1, e1, hf3⟩ := sf_ldi_inv hf2
  obtain ⟨a2, e2, hf4⟩ := sf_lda_inv hf3
  obtain ⟨rfl, hf5⟩ := sf_eq_inv hf4
  obtain ⟨a3, e3, hf6⟩ := sf_lda_inv hf5
  obtain ⟨rfl, hf7⟩ := sf_eq_inv hf6
  obtain ⟨x7, e7, hf8⟩ := sf_ldi_inv hf7
  obtain ⟨x9, e9, hf9⟩ := sf_ldi_inv hf8
  obtain ⟨x10, e10, hf10⟩ := sf_ldi_inv hf9
  obtain ⟨x15, e15, hf11⟩ := sf_ldi_inv hf10
  obtain ⟨x18, e18, hf12⟩ := sf_ldi_inv hf11
  obtain ⟨x19, e19, hf13⟩ := sf_ldi_inv hf12
  obtain ⟨rfl, hz⟩ := sf_nil_inv hf13
  exact hm _ [(0, some (.ref _)), (1, some (.int x1)), (2, some (.ref _)), (3, some (.ref _)), (7, some (.int x7)), (9, some (.int x9)), (10, some (.int x10)), (15, some (.int x15)), (18, some (.int x18)), (19, some (.int x19))] _ _ _ (sf_le_ok (And.intro e0 (And.intro e1 (And.intro e2 (And.intro e3 (And.intro e7 (And.intro e9 (And.intro e10 (And.intro e15 (And.intro e18 (And.intro e19 trivial))))))))))) (h _ _ _ _ _ _ _ _ _ hz hp)
abbrev wL_law_514 {ρ : Type} (k : Int32 → Int32 → Int32 → Int32 → Int32 → Int32 → Int32 → Int32 → Int32 → sf_S → Option ρ) : sf_M ρ := fun L st σ => sf_lda L 0 fun a0 => sf_eq a0 118 (sf_ldi L 1 fun x1 => sf_lda L 2 fun a2 => sf_eq a2 0 (sf_lda L 3 fun a3 => sf_eq a3 59 (sf_ldi L 6 fun x6 => sf_ldi L 7 fun x7 => sf_ldi L 9 fun x9 => sf_ldi L 10 fun x10 => sf_ldi L 15 fun x15 => sf_ldi L 18 fun x18 => sf_i1 st fun y0 st => sf_i1 st fun y1 st => sf_nil st (k x1 x6 x7 x9 x10 x15 x18 y0 y1 σ))))
theorem wL_law_514_ok {ρ : Type} {Wt : Nat → sf_L → List Value → sf_S → Prop} {Post : ρ → Prop} (hm : sf_mono Wt) {k : Int32 → Int32 → Int32 → Int32 → Int32 → Int32 → Int32 → Int32 → Int32 → sf_S → Option ρ} (h : ∀ (x1 : Int32) (x6 : Int32) (x7 : Int32) (x9 : Int32) (x10 : Int32) (x15 : Int32) (x18 : Int32) (y0 : Int32) (y1 : Int32) (σ : sf_S) (u : ρ), k x1 x6 x7 x9 x10 x15 x18 y0 y1 σ = some u → Post u → Wt 514 [(0, some (.ref 118)), (1, some (.int x1)), (2, some (.ref 0)), (3, some (.ref 59)), (6, some (.int x6)), (7, some (.int x7)), (9, some (.int x9)), (10, some (.int x10)), (15, some (.int x15)), (18, some (.int x18))] [.int y0, .int y1] σ) : sf_CK Wt Post 514 (wL_law_514 k) := by
  intro L st σ u hf hp
  unfold wL_law_514 at hf
  have hf0 := hf
  obtain ⟨a0, e0, hf1⟩ := sf_lda_inv hf0
  obtain ⟨rfl, hf2⟩ := sf_eq_inv hf1
  obtain ⟨x1, e1, hf3⟩ := sf_ldi_inv hf2
  obtain ⟨a2, e2, hf4⟩ := sf_lda_inv hf3
  obtain ⟨rfl, hf5⟩ := sf_eq_inv hf4
  obtain ⟨a3, e3, hf6⟩ := sf_lda_inv hf5
  obtain ⟨rfl, hf7⟩ := sf_eq_inv hf6
  obtain ⟨x6, e6, hf8⟩ := sf_ldi_inv hf7
  obtain ⟨x7, e7, hf9⟩ := sf_ldi_inv hf8
  obtain ⟨x9, e9, hf10⟩ := sf_ldi_inv hf9
  obtain ⟨x10, e10, hf11⟩ := sf_ldi_inv hf10
  obtain ⟨x15, e15, hf12⟩ := sf_ldi_inv hf11
  obtain ⟨x18, e18, hf13⟩ := sf_ldi_inv hf12
  obtain ⟨y0, st, rfl, hf14⟩ := sf_i1_inv hf13
  obtain ⟨y1, st, rfl, hf15⟩ := sf_i1_inv hf14
  obtain ⟨rfl, hz⟩ := sf_nil_inv hf15
  exact hm _ [(0, some (.ref _)), (1, some (.int x1)), (2, some (.ref _)), (3, some (.ref _)), (6, some (.int x6)), (7, some (.int x7)), (9, some (.int x9)), (10, some (.int x10)), (15, some (.int x15)), (18, some (.int x18))] _ _ _ (sf_le_ok (And.intro e0 (And.intro e1 (And.intro e2 (And.intro e3 (And.intro e6 (And.intro e7 (And.intro e9 (And.intro e10 (And.intro e15 (And.intro e18 trivial))))))))))) (h _ _ _ _ _ _ _ _ _ _ _ hz hp)
abbrev wL_law_450 {ρ : Type} (k : Int32 → Int32 → Int32 → Int32 → Int32 → sf_S → Option ρ) : sf_M ρ := fun L st σ => sf_lda L 0 fun a0 => sf_eq a0 118 (sf_ldi L 1 fun x1 => sf_lda L 2 fun a2 => sf_eq a2 0 (sf_lda L 3 fun a3 => sf_eq a3 59 (sf_ldi L 6 fun x6 => sf_ldi L 7 fun x7 => sf_ldi L 9 fun x9 => sf_ldi L 10 fun x10 => sf_nil st (k x1 x6 x7 x9 x10 σ))))
theorem wL_law_450_ok {ρ : Type} {Wt : Nat → sf_L → List Value → sf_S → Prop} {Post : ρ → Prop} (hm : sf_mono Wt) {k : Int32 → Int32 → Int32 → Int32 → Int32 → sf_S → Option ρ} (h : ∀ (x1 : Int32) (x6 : Int32) (x7 : Int32) (x9 : Int32) (x10 : Int32) (σ : sf_S) (u : ρ), k x1 x6 x7 x9 x10 σ = some u → Post u → Wt 450 [(0, some (.ref 118)), (1, some (.int x1)), (2, some (.ref 0)), (3, some (.ref 59)), (6, some (.int x6)), (7, some (.int x7)), (9, some (.int x9)), (10, some (.int x10))] [] σ) : sf_CK Wt Post 450 (wL_law_450 k) := by
  intro L st σ u hf hp
  unfold wL_law_450 at hf
  have hf0 := hf
  obtain ⟨a0, e0, hf1⟩ := sf_lda_inv hf0
  obtain ⟨rfl, hf2⟩ := sf_eq_inv hf1
  obtain ⟨x1, e1, hf3⟩ := sf_ldi_inv hf2
  obtain ⟨a2, e2, hf4⟩ := sf_lda_inv hf3
  obtain ⟨rfl, hf5⟩ := sf_eq_inv hf4
  obtain ⟨a3, e3, hf6⟩ := sf_lda_inv hf5
  obtain ⟨rfl, hf7⟩ := sf_eq_inv hf6
  obtain ⟨x6, e6, hf8⟩ := sf_ldi_inv hf7
  obtain ⟨x7, e7, hf9⟩ := sf_ldi_inv hf8
  obtain ⟨x9, e9, hf10⟩ := sf_ldi_inv hf9
  obtain ⟨x10, e10, hf11⟩ := sf_ldi_inv hf10
  obtain ⟨rfl, hz⟩ := sf_nil_inv hf11
  exact hm _ [(0, some (.ref _)), (1, some (.int x1)), (2, some (.ref _)), (3, some (.ref _)), (6, some (.int x6)), (7, some (.int x7)), (9, some (.int x9)), (10, some (.int x10))] _ _ _ (sf_le_ok (And.intro e0 (And.intro e1 (And.intro e2 (And.intro e3 (And.intro e6 (And.intro e7 (And.intro e9 (And.intro e10 trivial))))))))) (h _ _ _ _ _ _ _ hz hp)
abbrev wL_law_406 {ρ : Type} (k : Int32 → Int32 → Int32 → Int32 → Int32 → Int32 → Int32 → Int32 → sf_S → Option ρ) : sf_M ρ := fun L st σ => sf_lda L 0 fun a0 => sf_eq a0 118 (sf_ldi L 1 fun x1 => sf_lda L 2 fun a2 => sf_eq a2 0 (sf_lda L 3 fun a3 => sf_eq a3 59 (sf_ldi L 6 fun x6 => sf_ldi L 7 fun x7 => sf_ldi L 8 fun x8 => sf_ldi L 9 fun x9 => sf_ldi L 10 fun x10 => sf_ldi L 13 fun x13 => sf_ldi L 15 fun x15 => sf_nil st (k x1 x6 x7 x8 x9 x10 x13 x15 σ))))
theorem wL_law_406_ok {ρ : Type} {Wt : Nat → sf_L → List Value → sf_S → Prop} {Post : ρ → Prop} (hm : sf_mono Wt) {k : Int32 → Int32 → Int32 → Int32 → Int32 → Int32 → Int32 → Int32 → sf_S → Option ρ} (h : ∀ (x1 : Int32) (x6 : Int32) (x7 : Int32) (x8 : Int32) (x9 : Int32) (x10 : Int32) (x13 : Int32) (x15 : Int32) (σ : sf_S) (u : ρ), k x1 x6 x7 x8 x9 x10 x13 x15 σ = some u → Post u → Wt 406 [(0, some (.ref 118)), (1, some (.int x1)), (2, some (.ref 0)), (3, some (.ref 59)), (6, some (.int x6)), (7, some (.int x7)), (8, some (.int x8)), (9, some (.int x9)), (10, some (.int x10)), (13, some (.int x13)), (15, some (.int x15))] [] σ) : sf_CK Wt Post 406 (wL_law_406 k) := by
  intro L st σ u hf hp
  unfold wL_law_406 at hf
  have hf0 := hf
  obtain ⟨a0, e0, hf1⟩ := sf_lda_inv hf0
  obtain ⟨rfl, hf2⟩ := sf_eq_inv hf1
  obtain ⟨x1, e1, hf3⟩ := sf_ldi_inv hf2
  obtain ⟨a2, e2, hf4⟩ := sf_lda_inv hf3
  obtain ⟨rfl, hf5⟩ := sf_eq_inv hf4
  obtain ⟨a3, e3, hf6⟩ := sf_lda_inv hf5
  obtain ⟨rfl, hf7⟩ := sf_eq_inv hf6
  obtain ⟨x6, e6, hf8⟩ := sf_ldi_inv hf7
  obtain ⟨x7, e7, hf9⟩ := sf_ldi_inv hf8
  obtain ⟨x8, e8, hf10⟩ := sf_ldi_inv hf9
  obtain ⟨x9, e9, hf11⟩ := sf_ldi_inv hf10
  obtain ⟨x10, e10, hf12⟩ := sf_ldi_inv hf11
  obtain ⟨x13, e13, hf13⟩ := sf_ldi_inv hf12
  obtain ⟨x15, e15, hf14⟩ := sf_ldi_inv hf13
  obtain ⟨rfl, hz⟩ := sf_nil_inv hf14
  exact hm _ [(0, some (.ref _)), (1, some (.int x1)), (2, some (.ref _)), (3, some (.ref _)), (6, some (.int x6)), (7, some (.int x7)), (8, some (.int x8)), (9, some (.int x9)), (10, some (.int x10)), (13, some (.int x13)), (15, some (.int x15))] _ _ _ (sf_le_ok (And.intro e0 (And.intro e1 (And.intro e2 (And.intro e3 (And.intro e6 (And.intro e7 (And.intro e8 (And.intro e9 (And.intro e10 (And.intro e13 (And.intro e15 trivial)))))))))))) (h _ _ _ _ _ _ _ _ _ _ hz hp)
abbrev wL_law_361 {ρ : Type} (k : Int32 → Int32 → Int32 → Int32 → Int32 → Int32 → Int32 → Int32 → Int32 → sf_S → Option ρ) : sf_M ρ := fun L st σ => sf_lda L 0 fun a0 => sf_eq a0 118 (sf_ldi L 1 fun x1 => sf_lda L 2 fun a2 => sf_eq a2 0 (sf_lda L 3 fun a3 => sf_eq a3 59 (sf_ldi L 6 fun x6 => sf_ldi L 7 fun x7 => sf_ldi L 8 fun x8 => sf_ldi L 9 fun x9 => sf_ldi L 10 fun x10 => sf_ldi L 13 fun x13 => sf_ldi L 14 fun x14 => sf_i1 st fun y0 st => sf_nil st (k x1 x6 x7 x8 x9 x10 x13 x14 y0 σ))))
theorem wL_law_361_ok {ρ : Type} {Wt : Nat → sf_L → List Value → sf_S → Prop} {Post : ρ → Prop} (hm : sf_mono Wt) {k : Int32 → Int32 → Int32 → Int32 → Int32 → Int32 → Int32 → Int32 → Int32 → sf_S → Option ρ} (h : ∀ (x1 : Int32) (x6 : Int32) (x7 : Int32) (x8 : Int32) (x9 : Int32) (x10 : Int32) (x13 : Int32) (x14 : Int32) (y0 : Int32) (σ : sf_S) (u : ρ), k x1 x6 x7 x8 x9 x10 x13 x14 y0 σ = some u → Post u → Wt 361 [(0, some (.ref 118)), (1, some (.int x1)), (2, some (.ref 0)), (3, some (.ref 59)), (6, some (.int x6)), (7, some (.int x7)), (8, some (.int x8)), (9, some (.int x9)), (10, some (.int x10)), (13, some (.int x13)), (14, some (.int x14))] [.int y0] σ) : sf_CK Wt Post 361 (wL_law_361 k) := by
  intro L st σ u hf hp
  unfold wL_law_361 at hf
  have hf0 := hf
  obtain ⟨a0, e0, hf1⟩ := sf_lda_inv hf0
  obtain ⟨rfl, hf2⟩ := sf_eq_inv hf1
  obtain ⟨x1, e1, hf3⟩ := sf_ldi_inv hf2
  obtain ⟨a2, e2, hf4⟩ := sf_lda_inv hf3
  obtain ⟨rfl, hf5⟩ := sf_eq_inv hf4
  obtain ⟨a3, e3, hf6⟩ := sf_lda_inv hf5
  obtain ⟨rfl, hf7⟩ := sf_eq_inv hf6
  obtain ⟨x6, e6, hf8⟩ := sf_ldi_inv hf7
  obtain ⟨x7, e7, hf9⟩ := sf_ldi_inv hf8
  obtain ⟨x8, e8, hf10⟩ := sf_ldi_inv hf9
  obtain ⟨x9, e9, hf11⟩ := sf_ldi_inv hf10
  obtain ⟨x10, e10, hf12⟩ := sf_ldi_inv hf11
  obtain ⟨x13, e13, hf13⟩ := sf_ldi_inv hf12
  obtain ⟨x14, e14, hf14⟩ := sf_ldi_inv hf13
  obtain ⟨y0, st, rfl, hf15⟩ := sf_i1_inv hf14
  obtain ⟨rfl, hz⟩ := sf_nil_inv hf15
  exact hm _ [(0, some (.ref _)), (1, some (.int x1)), (2, some (.ref _)), (3, some (.ref _)), (6, some (.int x6)), (7, some (.int x7)), (8, some (.int x8)), (9, some (.int x9)), (10, some (.int x10)), (13, some (.int x13)), (14, some (.int x14))] _ _ _ (sf_le_ok (And.intro e0 (And.intro e1 (And.intro e2 (And.intro e3 (And.intro e6 (And.intro e7 (And.intro e8 (And.intro e9 (And.intro e10 (And.intro e13 (And.intro e14 trivial)))))))))))) (h _ _ _ _ _ _ _ _ _ _ _ hz hp)
abbrev wL_law_303 {ρ : Type} (k : Int32 → Int32 → Int32 → Int32 → Int32 → Int32 → Int32 → Int32 → sf_S → Option ρ) : sf_M ρ := fun L st σ => sf_lda L 0 fun a0 => sf_eq a0 118 (sf_ldi L 1 fun x1 => sf_lda L 2 fun a2 => sf_eq a2 0 (sf_lda L 3 fun a3 => sf_eq a3 59 (sf_ldi L 6 fun x6 => sf_ldi L 7 fun x7 => sf_ldi L 8 fun x8 => sf_ldi L 9 fun x9 => sf_ldi L 10 fun x10 => sf_ldi L 13 fun x13 => sf_ldi L 14 fun x14 => sf_nil st (k x1 x6 x7 x8 x9 x10 x13 x14 σ))))
theorem wL_law_303_ok {ρ : Type} {Wt : Nat → sf_L → List Value → sf_S → Prop} {Post : ρ → Prop} (hm : sf_mono Wt) {k : Int32 → Int32 → Int32 → Int32 → Int32 → Int32 → Int32 → Int32 → sf_S → Option ρ} (h : ∀ (x1 : Int32) (x6 : Int32) (x7 : Int32) (x8 : Int32) (x9 : Int32) (x10 : Int32) (x13 : Int32) (x14 : Int32) (σ : sf_S) (u : ρ), k x1 x6 x7 x8 x9 x10 x13 x14 σ = some u → Post u → Wt 303 [(0, some (.ref 118)), (1, some (.int x1)), (2, some (.ref 0)), (3, some (.ref 59)), (6, some (.int x6)), (7, some (.int x7)), (8, some (.int x8)), (9, some (.int x9)), (10, some (.int x10)), (13, some (.int x13)), (14, some (.int x14))] [] σ) : sf_CK Wt Post 303 (wL_law_303 k) := by
  intro L st σ u hf hp
  unfold wL_law_303 at hf
  have hf0 := hf
  obtain ⟨a0, e0, hf1⟩ := sf_lda_inv hf0
  obtain ⟨rfl, hf2⟩ := sf_eq_inv hf1
  obtain ⟨x1, e1, hf3⟩ := sf_ldi_inv hf2
  obtain ⟨a2, e2, hf4⟩ := sf_lda_inv hf3
  obtain ⟨rfl, hf5⟩ := sf_eq_inv hf4
  obtain ⟨a3, e3, hf6⟩ := sf_lda_inv hf5
  obtain ⟨rfl, hf7⟩ := sf_eq_inv hf6
  obtain ⟨x6, e6, hf8⟩ := sf_ldi_inv hf7
  obtain ⟨x7, e7, hf9⟩ := sf_ldi_inv hf8
  obtain ⟨x8, e8, hf10⟩ := sf_ldi_inv hf9
  obtain ⟨x9, e9, hf11⟩ := sf_ldi_inv hf10
  obtain ⟨x10, e10, hf12⟩ := sf_ldi_inv hf11
  obtain ⟨x13, e13, hf13⟩ := sf_ldi_inv hf12
  obtain ⟨x14, e14, hf14⟩ := sf_ldi_inv hf13
  obtain ⟨rfl, hz⟩ := sf_nil_inv hf14
  exact hm _ [(0, some (.ref _)), (1, some (.int x1)), (2, some (.ref _)), (3, some (.ref _)), (6, some (.int x6)), (7, some (.int x7)), (8, some (.int x8)), (9, some (.int x9)), (10, some (.int x10)), (13, some (.int x13)), (14, some (.int x14))] _ _ _ (sf_le_ok (And.intro e0 (And.intro e1 (And.intro e2 (And.intro e3 (And.intro e6 (And.intro e7 (And.intro e8 (And.intro e9 (And.intro e10 (And.intro e13 (And.intro e14 trivial)))))))))))) (h _ _ _ _ _ _ _ _ _ _ hz hp)
abbrev wL_law_266 {ρ : Type} (k : Int32 → Int32 → Int32 → Int32 → Int32 → Int32 → Int32 → Int32 → sf_S → Option ρ) : sf_M ρ := fun L st σ => sf_lda L 0 fun a0 => sf_eq a0 118 (sf_ldi L 1 fun x1 => sf_lda L 2 fun a2 => sf_eq a2 0 (sf_lda L 3 fun a3 => sf_eq a3 59 (sf_ldi L 6 fun x6 => sf_ldi L 7 fun x7 => sf_ldi L 8 fun x8 => sf_ldi L 9 fun x9 => sf_ldi L 10 fun x10 => sf_ldi L 12 fun x12 => sf_ldi L 13 fun x13 => sf_nil st (k x1 x6 x7 x8 x9 x10 x12 x13 σ))))
theorem wL_law_266_ok {ρ : Type} {Wt : Nat → sf_L → List Value → sf_S → Prop} {Post : ρ → Prop} (hm : sf_mono Wt) {k : Int32 → Int32 → Int32 → Int32 → Int32 → Int32 → Int32 → Int32 → sf_S → Option ρ} (h : ∀ (x1 : Int32) (x6 : Int32) (x7 : Int32) (x8 : Int32) (x9 : Int32) (x10 : Int32) (x12 : Int32) (x13 : Int32) (σ : sf_S) (u : ρ), k x1 x6 x7 x8 x9 x10 x12 x13 σ = some u → Post u → Wt 266 [(0, some (.ref 118)), (1, some (.int x1)), (2, some (.ref 0)), (3, some (.ref 59)), (6, some (.int x6)), (7, some (.int x7)), (8, some (.int x8)), (9, some (.int x9)), (10, some (.int x10)), (12, some (.int x12)), (13, some (.int x13))] [] σ) : sf_CK Wt Post 266 (wL_law_266 k) := by
  intro L st σ u hf hp
  unfold wL_law_266 at hf
  have hf0 := hf
  obtain ⟨a0, e0, hf1⟩ := sf_lda_inv hf0
  obtain ⟨rfl, hf2⟩ := sf_eq_inv hf1
  obtain ⟨x1, e1, hf3⟩ := sf_ldi_inv hf2
  obtain ⟨a2, e2, hf4⟩ := sf_lda_inv hf3
  obtain ⟨rfl, hf5⟩ := sf_eq_inv hf4
  obtain ⟨a3, e3, hf6⟩ := sf_lda_inv hf5
  obtain ⟨rfl, hf7⟩ := sf_eq_inv hf6
  obtain ⟨x6, e6, hf8⟩ := sf_ldi_inv hf7
  obtain ⟨x7, e7, hf9⟩ := sf_ldi_inv hf8
  obtain ⟨x8, e8, hf10⟩ := sf_ldi_inv hf9
  obtain ⟨x9, e9, hf11⟩ := sf_ldi_inv hf10
  obtain ⟨x10, e10, hf12⟩ := sf_ldi_inv hf11
  obtain ⟨x12, e12, hf13⟩ := sf_ldi_inv hf12
  obtain ⟨x13, e13, hf14⟩ := sf_ldi_inv hf13
  obtain ⟨rfl, hz⟩ := sf_nil_inv hf14
  exact hm _ [(0, some (.ref _)), (1, some (.int x1)), (2, some (.ref _)), (3, some (.ref _)), (6, some (.int x6)), (7, some (.int x7)), (8, some (.int x8)), (9, some (.int x9)), (10, some (.int x10)), (12, some (.int x12)), (13, some (.int x13))] _ _ _ (sf_le_ok (And.intro e0 (And.intro e1 (And.intro e2 (And.intro e3 (And.intro e6 (And.intro e7 (And.intro e8 (And.intro e9 (And.intro e10 (And.intro e12 (And.intro e13 trivial)))))))))))) (h _ _ _ _ _ _ _ _ _ _ hz hp)
abbrev wL_law_248 {ρ : Type} (k : Int32 → Int32 → Int32 → Int32 → Int32 → Int32 → Int32 → Int32 → Int32 → sf_S → Option ρ) : sf_M ρ := fun L st σ => sf_lda L 0 fun a0 => sf_eq a0 118 (sf_ldi L 1 fun x1 => sf_lda L 2 fun a2 => sf_eq a2 0 (sf_lda L 3 fun a3 => sf_eq a3 59 (sf_ldi L 6 fun x6 => sf_ldi L 7 fun x7 => sf_ldi L 8 fun x8 => sf_ldi L 9 fun x9 => sf_ldi L 10 fun x10 => sf_ldi L 12 fun x12 => sf_i1 st fun y0 st => sf_i1 st fun y1 st => sf_nil st (k x1 x6 x7 x8 x9 x10 x12 y0 y1 σ))))
theorem wL_law_248_ok {ρ : Type} {Wt : Nat → sf_L → List Value → sf_S → Prop} {Post : ρ → Prop} (hm : sf_mono Wt) {k : Int32 → Int32 → Int32 → Int32 → Int32 → Int32 → Int32 → Int32 → Int32 → sf_S → Option ρ} (h : ∀ (x1 : Int32) (x6 : Int32) (x7 : Int32) (x8 : Int32) (x9 : Int32) (x10 : Int32) (x12 : Int32) (y0 : Int32) (y1 : Int32) (σ : sf_S) (u : ρ), k x1 x6 x7 x8 x9 x10 x12 y0 y1 σ = some u → Post u → Wt 248 [(0, some (.ref 118)), (1, some (.int x1)), (2, some (.ref 0)), (3, some (.ref 59)), (6, some (.int x6)), (7, some (.int x7)), (8, some (.int x8)), (9, some (.int x9)), (10, some (.int x10)), (12, some (.int x12))] [.int y0, .int y1] σ) : sf_CK Wt Post 248 (wL_law_248 k) := by
  intro L st σ u hf hp
  unfold wL_law_248 at hf
  have hf0 := hf
  obtain ⟨a0, e0, hf1⟩ := sf_lda_inv hf0
  obtain ⟨rfl, hf2⟩ := sf_eq_inv hf1
  obtain ⟨x1, e1, hf3⟩ := sf_ldi_inv hf2
  obtain ⟨a2, e2, hf4⟩ := sf_lda_inv hf3
  obtain ⟨rfl, hf5⟩ := sf_eq_inv hf4
  obtain ⟨a3, e3, hf6⟩ := sf_lda_inv hf5
  obtain ⟨rfl, hf7⟩ := sf_eq_inv hf6
  obtain ⟨x6, e6, hf8⟩ := sf_ldi_inv hf7
  obtain ⟨x7, e7, hf9⟩ := sf_ldi_inv hf8
  obtain ⟨x8, e8, hf10⟩ := sf_ldi_inv hf9
  obtain ⟨x9, e9, hf11⟩ := sf_ldi_inv hf10
  obtain ⟨x10, e10, hf12⟩ := sf_ldi_inv hf11
  obtain ⟨x12, e12, hf13⟩ := sf_ldi_inv hf12
  obtain ⟨y0, st, rfl, hf14⟩ := sf_i1_inv hf13
  obtain ⟨y1, st, rfl, hf15⟩ := sf_i1_inv hf14
  obtain ⟨rfl, hz⟩ := sf_nil_inv hf15
  exact hm _ [(0, some (.ref _)), (1, some (.int x1)), (2, some (.ref _)), (3, some (.ref _)), (6, some (.int x6)), (7, some (.int x7)), (8, some (.int x8)), (9, some (.int x9)), (10, some (.int x10)), (12, some (.int x12))] _ _ _ (sf_le_ok (And.intro e0 (And.intro e1 (And.intro e2 (And.intro e3 (And.intro e6 (And.intro e7 (And.intro e8 (And.intro e9 (And.intro e10 (And.intro e12 trivial))))))))))) (h _ _ _ _ _ _ _ _ _ _ _ hz hp)
abbrev wL_law_172 {ρ : Type} (k : Int32 → Int32 → Int32 → Int32 → sf_S → Option ρ) : sf_M ρ := fun L st σ => sf_lda L 0 fun a0 => sf_eq a0 118 (sf_ldi L 1 fun x1 => sf_lda L 2 fun a2 => sf_eq a2 0 (sf_lda L 3 fun a3 => sf_eq a3 59 (sf_ldi L 6 fun x6 => sf_ldi L 7 fun x7 => sf_ldi L 8 fun x8 => sf_nil st (k x1 x6 x7 x8 σ))))
theorem wL_law_172_ok {ρ : Type} {Wt : Nat → sf_L → List Value → sf_S → Prop} {Post : ρ → Prop} (hm : sf_mono Wt) {k : Int32 → Int32 → Int32 → Int32 → sf_S → Option ρ} (h : ∀ (x1 : Int32) (x6 : Int32) (x7 : Int32) (x8 : Int32) (σ : sf_S) (u : ρ), k x1 x6 x7 x8 σ = some u → Post u → Wt 172 [(0, some (.ref 118)), (1, some (.int x1)), (2, some (.ref 0)), (3, some (.ref 59)), (6, some (.int x6)), (7, some (.int x7)), (8, some (.int x8))] [] σ) : sf_CK Wt Post 172 (wL_law_172 k) := by
  intro L st σ u hf hp
  unfold wL_law_172 at hf
  have hf0 := hf
  obtain ⟨a0, e0, hf1⟩ := sf_lda_inv hf0
  obtain ⟨rfl, hf2⟩ := sf_eq_inv hf1
  obtain ⟨x1, e1, hf3⟩ := sf_ldi_inv hf2
  obtain ⟨a2, e2, hf4⟩ := sf_lda_inv hf3
  obtain ⟨rfl, hf5⟩ := sf_eq_inv hf4
  obtain ⟨a3, e3, hf6⟩ := sf_lda_inv hf5
  obtain ⟨rfl, hf7⟩ := sf_eq_inv hf6
  obtain ⟨x6, e6, hf8⟩ := sf_ldi_inv hf7
  obtain ⟨x7, e7, hf9⟩ := sf_ldi_inv hf8
  obtain ⟨x8, e8, hf10⟩ := sf_ldi_inv hf9
  obtain ⟨rfl, hz⟩ := sf_nil_inv hf10
  exact hm _ [(0, some (.ref _)), (1, some (.int x1)), (2, some (.ref _)), (3, some (.ref _)), (6, some (.int x6)), (7, some (.int x7)), (8, some (.int x8))] _ _ _ (sf_le_ok (And.intro e0 (And.intro e1 (And.intro e2 (And.intro e3 (And.intro e6 (And.intro e7 (And.intro e8 trivial)))))))) (h _ _ _ _ _ _ hz hp)
abbrev wL_law_739 {ρ : Type} (k : Int32 → sf_S → Option ρ) : sf_M ρ := fun L st σ => sf_lda L 0 fun a0 => sf_eq a0 118 (sf_ldi L 1 fun x1 => sf_nil st (k x1 σ))
theorem wL_law_739_ok {ρ : Type} {Wt : Nat → sf_L → List Value → sf_S → Prop} {Post : ρ → Prop} (hm : sf_mono Wt) {k : Int32 → sf_S → Option ρ} (h : ∀ (x1 : Int32) (σ : sf_S) (u : ρ), k x1 σ = some u → Post u → Wt 739 [(0, some (.ref 118)), (1, some (.int x1))] [] σ) : sf_CK Wt Post 739 (wL_law_739 k) := by
  intro L st σ u hf hp
  unfold wL_law_739 at hf
  obtain ⟨a0, e0, hf1⟩ := sf_lda_inv hf
  obtain ⟨rfl, hf2⟩ := sf_eq_inv hf1
  obtain ⟨x1, e1, hf3⟩ := sf_ldi_inv hf2
  obtain ⟨rfl, hz⟩ := sf_nil_inv hf3
  exact hm _ [(0, some (.ref _)), (1, some (.int x1))] _ _ _ (sf_le_ok (And.intro e0 (And.intro e1 trivial))) (h _ _ _ hz hp)
noncomputable def dL_law_692 (ns : Nat) (x1 : Int32) (x7 : Int32) (x10 : Int32) (x15 : Int32) (σ : sf_S) : Option (Int32 × sf_S) :=
  (dW_run 0 (0 : Int32) x7 σ).bind fun u1 =>
  (dW_count 59 (2 : Int32) u1.2).bind fun u2 =>
  if ¬ u1.1 = u2.1 then
    none
  else
    (dL_same ns u2.2).bind fun u3 =>
    if u3.1 = 0 then
      none
    else
      (dW_told 0 (0 : Int32) u3.2).bind fun u4 =>
      if ¬ u4.1 = (x10 - x15) then
        none
      else
        (dW_saves 0 x7 u4.2).bind fun u5 =>
        if u5.1 = 0 then
          some (x1, u5.2)
        else
          none
set_option maxRecDepth 100000 in
set_option maxHeartbeats 4000000 in
theorem rL_law_692 {Wt : Nat → sf_L → List Value → sf_S → Prop} {Post : (Int32 × sf_S) → Prop} {ns : Nat} (hs : sf_Snd Wt (sf_layW ns) (fun _ _ => none) (jL_law ns) tL_law Post) (hm : sf_mono Wt) (hend : sf_CK Wt Post 739 (wL_law_739 fun x1 σ => some (x1, σ))) : sf_CK Wt Post 692 (wL_law_692 (dL_law_692 ns)) := by
  refine wL_law_692_ok hm ?_
  intro x1 x7 x10 x15 σ u h hp
  exact sf_run_ok hs (sf_sm_cons hend sf_sm_nil) 375 692 _ _ σ u h hp
noncomputable def dL_law_591 (ns : Nat) : Nat → Int32 → Int32 → Int32 → Int32 → Int32 → Int32 → sf_S → Option (Int32 × sf_S)
  | 0 => fun _ _ _ _ _ _ _ => none
  | n + 1 => fun x1 x7 x9 x10 x15 x19 σ =>
    (dW_count 0 (0 : Int32) σ).bind fun u1 =>
    if u1.1 ≤ x19 then
      (dW_told 0 (0 : Int32) u1.2).bind fun u2 =>
      if ¬ u2.1 = x10 then
        none
      else
        (dW_run 59 (1 : Int32) x7 u2.2).bind fun u3 =>
        if u3.1 < 0 then
          none
        else
          (dW_told 59 (0 : Int32) u3.2).bind fun u4 =>
          if ¬ u4.1 = (x10 - x15) then
            none
          else
            if x9 = (3 : Int32) then
              dL_law_692 ns x1 x7 x10 x15 u4.2
            else
              (dL_same ns u4.2).bind fun u5 =>
              if ¬ u5.1 = 0 then
                dL_law_692 ns x1 x7 x10 x15 u5.2
              else
                none
    else
      (dW_node 0 x19 (5 : Int32) u1.2).bind fun u6 =>
      (dW_node 59 x19 (5 : Int32) u6.2).bind fun u7 =>
      if ¬ u6.1 = u7.1 then
        none
      else
        (dW_node 0 x19 (4 : Int32) u7.2).bind fun u8 =>
        (dW_node 59 x19 (4 : Int32) u8.2).bind fun u9 =>
        if u8.1 = u9.1 then
          dL_law_591 ns n x1 x7 x9 x10 x15 (x19 + (1 : Int32)) u9.2
        else
          none
set_option maxRecDepth 100000 in
set_option maxHeartbeats 4000000 in
theorem rL_law_591 {Wt : Nat → sf_L → List Value → sf_S → Prop} {Post : (Int32 × sf_S) → Prop} {ns : Nat} (hs : sf_Snd Wt (sf_layW ns) (fun _ _ => none) (jL_law ns) tL_law Post) (hm : sf_mono Wt) (hend : sf_CK Wt Post 739 (wL_law_739 fun x1 σ => some (x1, σ))) : ∀ n : Nat, sf_CK Wt Post 591 (wL_law_591 (dL_law_591 ns n)) := by
  intro n
  induction n with
  | zero => exact wL_law_591_ok hm (fun x1 x7 x9 x10 x15 x19 σ u h _ => by simp [dL_law_591] at h)
  | succ n ih =>
    refine wL_law_591_ok hm ?_
    intro x1 x7 x9 x10 x15 x19 σ u h hp
    exact sf_run_ok hs (sf_sm_cons ih (sf_sm_cons (rL_law_692 hs hm hend) sf_sm_nil)) 375 591 _ _ σ u h hp
noncomputable def dL_law_558 (ns : Nat) : Nat → Int32 → Int32 → Int32 → Int32 → Int32 → Int32 → Int32 → sf_S → Option (Int32 × sf_S)
  | 0 => fun _ _ _ _ _ _ _ _ => none
  | n + 1 => fun x1 x7 x9 x10 x15 x18 x19 σ =>
    if x18 ≤ x19 then
      dL_law_591 ns sf_F x1 x7 x9 x10 x15 (0 : Int32) σ
    else
      (dW_text 0 x19 σ).bind fun u1 =>
      (dW_text 59 x19 u1.2).bind fun u2 =>
      if u1.1 = u2.1 then
        dL_law_558 ns n x1 x7 x9 x10 x15 x18 (x19 + (1 : Int32)) u2.2
      else
        none
set_option maxRecDepth 100000 in
set_option maxHeartbeats 4000000 in
theorem rL_law_558 {Wt : Nat → sf_L → List Value → sf_S → Prop} {Post : (Int32 × sf_S) → Prop} {ns : Nat} (hs : sf_Snd Wt (sf_layW ns) (fun _ _ => none) (jL_law ns) tL_law Post) (hm : sf_mono Wt) (hend : sf_CK Wt Post 739 (wL_law_739 fun x1 σ => some (x1, σ))) : ∀ n : Nat, sf_CK Wt Post 558 (wL_law_558 (dL_law_558 ns n)) := by
  intro n
  induction n with
  | zero => exact wL_law_558_ok hm (fun x1 x7 x9 x10 x15 x18 x19 σ u h _ => by simp [dL_law_558] at h)
  | succ n ih =>
    refine wL_law_558_ok hm ?_
    intro x1 x7 x9 x10 x15 x18 x19 σ u h hp
    exact sf_run_ok hs (sf_sm_cons ih (sf_sm_cons (rL_law_591 hs hm hend sf_F) sf_sm_nil)) 375 558 _ _ σ u h hp
noncomputable def dL_law_514 (ns : Nat) (x1 : Int32) (x6 : Int32) (x7 : Int32) (x9 : Int32) (x10 : Int32) (x15 : Int32) (x18 : Int32) (y0 : Int32) (y1 : Int32) (σ : sf_S) : Option (Int32 × sf_S) :=
  if ¬ y1 = y0 then
    none
  else
    (dW_text 59 (-1 : Int32) σ).bind fun u1 =>
    if ¬ u1.1 = x18 then
      none
    else
      (dW_count 0 (0 : Int32) u1.2).bind fun u2 =>
      if x6 < u2.1 then
        none
      else
        (dW_tidy 0 (1 : Int32) u2.2).bind fun u3 =>
        if ¬ u3.1 = 0 then
          none
        else
          (dW_tidy 59 (0 : Int32) u3.2).bind fun u4 =>
          if u4.1 = 0 then
            dL_law_558 ns sf_F x1 x7 x9 x10 x15 x18 (0 : Int32) u4.2
          else
            none
set_option maxRecDepth 100000 in
set_option maxHeartbeats 4000000 in
theorem rL_law_514 {Wt : Nat → sf_L → List Value → sf_S → Prop} {Post : (Int32 × sf_S) → Prop} {ns : Nat} (hs : sf_Snd Wt (sf_layW ns) (fun _ _ => none) (jL_law ns) tL_law Post) (hm : sf_mono Wt) (hend : sf_CK Wt Post 739 (wL_law_739 fun x1 σ => some (x1, σ))) : sf_CK Wt Post 514 (wL_law_514 (dL_law_514 ns)) := by
  refine wL_law_514_ok hm ?_
  intro x1 x6 x7 x9 x10 x15 x18 y0 y1 σ u h hp
  exact sf_run_ok hs (sf_sm_cons (rL_law_558 hs hm hend sf_F) sf_sm_nil) 375 514 _ _ σ u h hp
noncomputable def dL_law_450 (ns : Nat) (x1 : Int32) (x6 : Int32) (x7 : Int32) (x9 : Int32) (x10 : Int32) (σ : sf_S) : Option (Int32 × sf_S) :=
  (dW_saves 0 x7 σ).bind fun u1 =>
  (dW_tidy 0 (0 : Int32) u1.2).bind fun u2 =>
  (dW_tidy 59 (1 : Int32) u2.2).bind fun u3 =>
  (dW_text 0 (-1 : Int32) u3.2).bind fun u4 =>
  if u1.1 < 0 then
    none
  else
    if u2.1 < 0 then
      none
    else
      if u3.1 < 0 then
        none
      else
        if u2.1 ≤ 0 then
          if u3.1 ≤ 0 then
            dL_law_514 ns x1 x6 x7 x9 x10 u1.1 u4.1 (0 : Int32) (0 : Int32) u4.2
          else
            dL_law_514 ns x1 x6 x7 x9 x10 u1.1 u4.1 (1 : Int32) (0 : Int32) u4.2
        else
          if u3.1 ≤ 0 then
            dL_law_514 ns x1 x6 x7 x9 x10 u1.1 u4.1 (0 : Int32) (1 : Int32) u4.2
          else
            dL_law_514 ns x1 x6 x7 x9 x10 u1.1 u4.1 (1 : Int32) (1 : Int32) u4.2
set_option maxRecDepth 100000 in
set_option maxHeartbeats 4000000 in
theorem rL_law_450 {Wt : Nat → sf_L → List Value → sf_S → Prop} {Post : (Int32 × sf_S) → Prop} {ns : Nat} (hs : sf_Snd Wt (sf_layW ns) (fun _ _ => none) (jL_law ns) tL_law Post) (hm : sf_mono Wt) (hend : sf_CK Wt Post 739 (wL_law_739 fun x1 σ => some (x1, σ))) : sf_CK Wt Post 450 (wL_law_450 (dL_law_450 ns)) := by
  refine wL_law_450_ok hm ?_
  intro x1 x6 x7 x9 x10 σ u h hp
  exact sf_run_ok hs (sf_sm_cons (rL_law_514 hs hm hend) sf_sm_nil) 375 450 _ _ σ u h hp
noncomputable def dL_law_406 (ns : Nat) : Nat → Int32 → Int32 → Int32 → Int32 → Int32 → Int32 → Int32 → Int32 → sf_S → Option (Int32 × sf_S)
  | 0 => fun _ _ _ _ _ _ _ _ _ => none
  | n + 1 => fun x1 x6 x7 x8 x9 x10 x13 x15 σ =>
    if x8 ≤ x15 then
      dL_law_450 ns x1 x6 x7 x9 x10 σ
    else
      if x13 = 0 then
        dL_law_450 ns x1 x6 x7 x9 x10 σ
      else
        (dW_failure 59 (0 : Int32) σ).bind fun u1 =>
        if ¬ u1.1 = 0 then
          dL_law_450 ns x1 x6 x7 x9 x10 u1.2
        else
          (dW_result 59 x15 u1.2).bind fun u2 =>
          (dW_result 0 x15 u2.2).bind fun u3 =>
          if (lg_cmp u2.1 u3.1) = 0 then
            dL_law_406 ns n x1 x6 x7 x8 x9 x10 x13 (x15 + (1 : Int32)) u3.2
          else
            none
set_option maxRecDepth 100000 in
set_option maxHeartbeats 4000000 in
theorem rL_law_406 {Wt : Nat → sf_L → List Value → sf_S → Prop} {Post : (Int32 × sf_S) → Prop} {ns : Nat} (hs : sf_Snd Wt (sf_layW ns) (fun _ _ => none) (jL_law ns) tL_law Post) (hm : sf_mono Wt) (hend : sf_CK Wt Post 739 (wL_law_739 fun x1 σ => some (x1, σ))) : ∀ n : Nat, sf_CK Wt Post 406 (wL_law_406 (dL_law_406 ns n)) := by
  intro n
  induction n with
  | zero => exact wL_law_406_ok hm (fun x1 x6 x7 x8 x9 x10 x13 x15 σ u h _ => by simp [dL_law_406] at h)
  | succ n ih =>
    refine wL_law_406_ok hm ?_
    intro x1 x6 x7 x8 x9 x10 x13 x15 σ u h hp
    exact sf_run_ok hs (sf_sm_cons ih (sf_sm_cons (rL_law_450 hs hm hend) sf_sm_nil)) 375 406 _ _ σ u h hp
noncomputable def dL_law_361 (ns : Nat) (x1 : Int32) (x6 : Int32) (x7 : Int32) (x8 : Int32) (x9 : Int32) (x10 : Int32) (x13 : Int32) (x14 : Int32) (y0 : Int32) (σ : sf_S) : Option (Int32 × sf_S) :=
  if y0 = x13 then
    none
  else
    if x13 = 0 then
      dL_law_406 ns sf_F x1 x6 x7 x8 x9 x10 x13 (0 : Int32) σ
    else
      (dW_failure 59 (0 : Int32) σ).bind fun u1 =>
      if ¬ u1.1 = 0 then
        dL_law_406 ns sf_F x1 x6 x7 x8 x9 x10 x13 (0 : Int32) u1.2
      else
        if ¬ x9 = 0 then
          none
        else
          if ¬ x14 = x8 then
            none
          else
            (dW_told 59 (0 : Int32) u1.2).bind fun u2 =>
            if x10 ≤ u2.1 then
              dL_law_406 ns sf_F x1 x6 x7 x8 x9 x10 x13 (0 : Int32) u2.2
            else
              none
set_option maxRecDepth 100000 in
set_option maxHeartbeats 4000000 in
theorem rL_law_361 {Wt : Nat → sf_L → List Value → sf_S → Prop} {Post : (Int32 × sf_S) → Prop} {ns : Nat} (hs : sf_Snd Wt (sf_layW ns) (fun _ _ => none) (jL_law ns) tL_law Post) (hm : sf_mono Wt) (hend : sf_CK Wt Post 739 (wL_law_739 fun x1 σ => some (x1, σ))) : sf_CK Wt Post 361 (wL_law_361 (dL_law_361 ns)) := by
  refine wL_law_361_ok hm ?_
  intro x1 x6 x7 x8 x9 x10 x13 x14 y0 σ u h hp
  exact sf_run_ok hs (sf_sm_cons (rL_law_406 hs hm hend sf_F) sf_sm_nil) 375 361 _ _ σ u h hp
noncomputable def dL_law_303 (ns : Nat) : Nat → Int32 → Int32 → Int32 → Int32 → Int32 → Int32 → Int32 → Int32 → sf_S → Option (Int32 × sf_S)
  | 0 => fun _ _ _ _ _ _ _ _ _ => none
  | n + 1 => fun x1 x6 x7 x8 x9 x10 x13 x14 σ =>
    if x6 ≤ x14 then
      (dW_run 59 (2 : Int32) x7 σ).bind fun u1 =>
      if ¬ u1.1 = (-3 : Int32) then
        dL_law_361 ns x1 x6 x7 x8 x9 x10 x13 u1.1 (0 : Int32) u1.2
      else
        dL_law_361 ns x1 x6 x7 x8 x9 x10 x13 u1.1 (1 : Int32) u1.2
    else
      if x13 = 0 then
        dL_law_303 ns n x1 x6 x7 x8 x9 x10 (0 : Int32) (x14 + (1 : Int32)) σ
      else
        (dW_node 0 x14 (0 : Int32) σ).bind fun u2 =>
        if u2.1 = (105 : Int32) then
          dL_law_303 ns n x1 x6 x7 x8 x9 x10 (0 : Int32) (x14 + (1 : Int32)) u2.2
        else
          dL_law_303 ns n x1 x6 x7 x8 x9 x10 (1 : Int32) (x14 + (1 : Int32)) u2.2
set_option maxRecDepth 100000 in
set_option maxHeartbeats 4000000 in
theorem rL_law_303 {Wt : Nat → sf_L → List Value → sf_S → Prop} {Post : (Int32 × sf_S) → Prop} {ns : Nat} (hs : sf_Snd Wt (sf_layW ns) (fun _ _ => none) (jL_law ns) tL_law Post) (hm : sf_mono Wt) (hend : sf_CK Wt Post 739 (wL_law_739 fun x1 σ => some (x1, σ))) : ∀ n : Nat, sf_CK Wt Post 303 (wL_law_303 (dL_law_303 ns n)) := by
  intro n
  induction n with
  | zero => exact wL_law_303_ok hm (fun x1 x6 x7 x8 x9 x10 x13 x14 σ u h _ => by simp [dL_law_303] at h)
  | succ n ih =>
    refine wL_law_303_ok hm ?_
    intro x1 x6 x7 x8 x9 x10 x13 x14 σ u h hp
    exact sf_run_ok hs (sf_sm_cons ih (sf_sm_cons (rL_law_361 hs hm hend) sf_sm_nil)) 375 303 _ _ σ u h hp
noncomputable def dL_law_266 (ns : Nat) : Nat → Int32 → Int32 → Int32 → Int32 → Int32 → Int32 → Int32 → Int32 → sf_S → Option (Int32 × sf_S)
  | 0 => fun _ _ _ _ _ _ _ _ _ => none
  | n + 1 => fun x1 x6 x7 x8 x9 x10 x12 x13 σ =>
    if x12 ≤ x13 then
      dL_law_303 ns sf_F x1 x6 x7 x8 x9 x10 (1 : Int32) (0 : Int32) σ
    else
      (dW_result 59 x13 σ).bind fun u1 =>
      (dW_result 0 x13 u1.2).bind fun u2 =>
      if (lg_cmp u1.1 u2.1) = 0 then
        dL_law_266 ns n x1 x6 x7 x8 x9 x10 x12 (x13 + (1 : Int32)) u2.2
      else
        none
set_option maxRecDepth 100000 in
set_option maxHeartbeats 4000000 in
theorem rL_law_266 {Wt : Nat → sf_L → List Value → sf_S → Prop} {Post : (Int32 × sf_S) → Prop} {ns : Nat} (hs : sf_Snd Wt (sf_layW ns) (fun _ _ => none) (jL_law ns) tL_law Post) (hm : sf_mono Wt) (hend : sf_CK Wt Post 739 (wL_law_739 fun x1 σ => some (x1, σ))) : ∀ n : Nat, sf_CK Wt Post 266 (wL_law_266 (dL_law_266 ns n)) := by
  intro n
  induction n with
  | zero => exact wL_law_266_ok hm (fun x1 x6 x7 x8 x9 x10 x12 x13 σ u h _ => by simp [dL_law_266] at h)
  | succ n ih =>
    refine wL_law_266_ok hm ?_
    intro x1 x6 x7 x8 x9 x10 x12 x13 σ u h hp
    exact sf_run_ok hs (sf_sm_cons ih (sf_sm_cons (rL_law_303 hs hm hend sf_F) sf_sm_nil)) 375 266 _ _ σ u h hp
noncomputable def dL_law_248 (ns : Nat) (x1 : Int32) (x6 : Int32) (x7 : Int32) (x8 : Int32) (x9 : Int32) (x10 : Int32) (x12 : Int32) (y0 : Int32) (y1 : Int32) (σ : sf_S) : Option (Int32 × sf_S) :=
  if ¬ y1 = y0 then
    none
  else
    (dW_told 59 (0 : Int32) σ).bind fun u1 =>
    if u1.1 ≤ x10 then
      dL_law_266 ns sf_F x1 x6 x7 x8 x9 x10 x12 (0 : Int32) u1.2
    else
      none
set_option maxRecDepth 100000 in
set_option maxHeartbeats 4000000 in
theorem rL_law_248 {Wt : Nat → sf_L → List Value → sf_S → Prop} {Post : (Int32 × sf_S) → Prop} {ns : Nat} (hs : sf_Snd Wt (sf_layW ns) (fun _ _ => none) (jL_law ns) tL_law Post) (hm : sf_mono Wt) (hend : sf_CK Wt Post 739 (wL_law_739 fun x1 σ => some (x1, σ))) : sf_CK Wt Post 248 (wL_law_248 (dL_law_248 ns)) := by
  refine wL_law_248_ok hm ?_
  intro x1 x6 x7 x8 x9 x10 x12 y0 y1 σ u h hp
  exact sf_run_ok hs (sf_sm_cons (rL_law_266 hs hm hend sf_F) sf_sm_nil) 375 248 _ _ σ u h hp
noncomputable def dL_law_172 (ns : Nat) (x1 : Int32) (x6 : Int32) (x7 : Int32) (x8 : Int32) (σ : sf_S) : Option (Int32 × sf_S) :=
  (dW_failure 0 (0 : Int32) σ).bind fun u1 =>
  if u1.1 = (4 : Int32) then
    none
  else
    (dW_told 0 (1 : Int32) u1.2).bind fun u2 =>
    if u2.1 < x8 then
      none
    else
      (dW_told 59 (1 : Int32) u2.2).bind fun u3 =>
      if x8 ≤ u3.1 then
        (dW_failure 0 (0 : Int32) u3.2).bind fun u4 =>
        (dW_told 0 (0 : Int32) u4.2).bind fun u5 =>
        if (2 : Int32) = 0 then
          none
        else
          let v6 := (x7 / (2 : Int32))
          (dW_run 59 (0 : Int32) v6 u5.2).bind fun u7 =>
          if v6 ≤ x8 then
            dL_law_248 ns x1 x6 x7 x8 u4.1 u5.1 u7.1 v6 u7.1 u7.2
          else
            dL_law_248 ns x1 x6 x7 x8 u4.1 u5.1 u7.1 x8 u7.1 u7.2
      else
        none
set_option maxRecDepth 100000 in
set_option maxHeartbeats 4000000 in
theorem rL_law_172 {Wt : Nat → sf_L → List Value → sf_S → Prop} {Post : (Int32 × sf_S) → Prop} {ns : Nat} (hs : sf_Snd Wt (sf_layW ns) (fun _ _ => none) (jL_law ns) tL_law Post) (hm : sf_mono Wt) (hend : sf_CK Wt Post 739 (wL_law_739 fun x1 σ => some (x1, σ))) : sf_CK Wt Post 172 (wL_law_172 (dL_law_172 ns)) := by
  refine wL_law_172_ok hm ?_
  intro x1 x6 x7 x8 σ u h hp
  exact sf_run_ok hs (sf_sm_cons (rL_law_248 hs hm hend) sf_sm_nil) 375 172 _ _ σ u h hp
noncomputable def dL_law (ns : Nat) (x1 : Int32) (σ : sf_S) : Option (Int32 × sf_S) :=
  let v1 := ((1 : Int32) + ((20 : Int32) * x1))
  (dL_cell ns (0 : Int32) σ).bind fun u2 =>
  let v3 := (u2.1 >>> (((7 : Int32) * x1) &&& 31))
  (dL_plans ns 0 v1 u2.2).bind fun u4 =>
  if u4.1 < (1 : Int32) then
    none
  else
    (dL_plans ns 59 v1 u4.2).bind fun u5 =>
    if ¬ u5.1 = u4.1 then
      none
    else
      (dL_sheets ns 0 v3 u5.2).bind fun u6 =>
      if u6.1 = 0 then
        none
      else
        (dL_sheets ns 59 v3 u6.2).bind fun u7 =>
        if ¬ u7.1 = 0 then
          (dL_up ns v3 (41 : Int32) u7.2).bind fun u8 =>
          (dW_run 0 (0 : Int32) u8.1 u8.2).bind fun u9 =>
          (dW_run 59 (1 : Int32) u8.1 u9.2).bind fun u10 =>
          if ¬ u10.1 = u9.1 then
            none
          else
            (dL_same ns u10.2).bind fun u11 =>
            if u11.1 = 0 then
              none
            else
              (dW_told 0 (0 : Int32) u11.2).bind fun u12 =>
              (dW_told 59 (0 : Int32) u12.2).bind fun u13 =>
              if ¬ u12.1 = u13.1 then
                none
              else
                (dW_told 0 (0 : Int32) u13.2).bind fun u14 =>
                if (500 : Int32) < u14.1 then
                  none
                else
                  (dW_failure 0 (0 : Int32) u14.2).bind fun u15 =>
                  if ¬ u15.1 = (3 : Int32) then
                    dL_law_172 ns x1 u4.1 u8.1 u9.1 u15.2
                  else
                    (dW_told 0 (0 : Int32) u15.2).bind fun u16 =>
                    if ¬ u16.1 = (500 : Int32) then
                      none
                    else
                      dL_law_172 ns x1 u4.1 u8.1 u9.1 u16.2
        else
          none
set_option maxRecDepth 100000 in
set_option maxHeartbeats 4000000 in
theorem rL_law {Wt : Nat → sf_L → List Value → sf_S → Prop} {Post : (Int32 × sf_S) → Prop} {ns : Nat} (hs : sf_Snd Wt (sf_layW ns) (fun _ _ => none) (jL_law ns) tL_law Post) (hm : sf_mono Wt) (hend : sf_CK Wt Post 739 (wL_law_739 fun x1 σ => some (x1, σ))) (x1 : Int32) (σ : sf_S) (u : Int32 × sf_S) (h : dL_law ns x1 σ = some u) (hp : Post u) : Wt 23 [(0, some (.ref 118)), (1, some (.int x1)), (2, some (.ref 0)), (3, some (.ref 59))] [] σ := by
  exact sf_run_ok hs (sf_sm_cons (rL_law_172 hs hm hend) sf_sm_nil) 375 23 _ _ σ u h hp
theorem joL_law (l : Launch) (ns : Nat) : so_JO l RL code 20 room_1 (sf_layW ns) (jL_law ns) := so_JO_cons (so_je_S (n := 2) (tv := sf_vI) (kL_cell l ns) mwL_cell (by decide +kernel : decode code 33 = .ok (.invokestatic 25, 3)) wt_928 wt_929 (by decide +kernel) (so_RMl (by decide) (by decide))) (so_JO_cons (so_je_S (n := 3) (tv := sf_vI) (kL_plans l ns) mwL_plans (by decide +kernel : decode code 47 = .ok (.invokestatic 72, 3)) wt_936 wt_937 (by decide +kernel) (so_RMl (by decide) (by decide))) (so_JO_cons (so_je_S (n := 3) (tv := sf_vI) (kL_plans l ns) mwL_plans (by decide +kernel : decode code 62 = .ok (.invokestatic 72, 3)) wt_936 wt_937 (by decide +kernel) (so_RMl (by decide) (by decide))) (so_JO_cons (so_je_S (n := 2) (tv := sf_vI) (kL_sheets l ns) mwL_sheets (by decide +kernel : decode code 73 = .ok (.invokestatic 76, 3)) wt_1022 wt_1023 (by decide +kernel) (so_RMl (by decide) (by decide))) (so_JO_cons (so_je_S (n := 2) (tv := sf_vI) (kL_sheets l ns) mwL_sheets (by decide +kernel : decode code 82 = .ok (.invokestatic 76, 3)) wt_1022 wt_1023 (by decide +kernel) (so_RMl (by decide) (by decide))) (so_JO_cons (so_je_S (n := 2) (tv := sf_vI) (kL_up l ns) mwL_up (by decide +kernel : decode code 94 = .ok (.invokestatic 15, 3)) wt_932 wt_933 (by decide +kernel) (so_RMl (by decide) (by decide))) (so_JO_cons (so_je_V (n := 3) (cs := [9]) (tv := sf_vI) (kW_run l ns) mwX11_run (by decide +kernel : decode code 103 = .ok (.invokevirtual 80, 3)) wt_783 wt_784 wt_785 (by decide +kernel) (by decide) (by decide) (List.forall_mem_cons.mpr ⟨⟨_, _, rfl⟩, fun _ h => absurd h List.not_mem_nil⟩) (so_RMl (by decide) (by decide))) (so_JO_cons (so_je_V (n := 3) (cs := [9]) (tv := sf_vI) (kW_run l ns) mwX11_run (by decide +kernel : decode code 112 = .ok (.invokevirtual 80, 3)) wt_783 wt_784 wt_785 (by decide +kernel) (by decide) (by decide) (List.forall_mem_cons.mpr ⟨⟨_, _, rfl⟩, fun _ h => absurd h List.not_mem_nil⟩) (so_RMl (by decide) (by decide))) (so_JO_cons (so_je_S (n := 2) (tv := sf_vI) (kL_same l ns) mwL_same (by decide +kernel : decode code 122 = .ok (.invokestatic 83, 3)) wt_1010 wt_1011 (by decide +kernel) (so_RMl (by decide) (by decide))) (so_JO_cons (so_je_V (n := 2) (cs := [9]) (tv := sf_vI) (kW_told l ns) mwX11_told (by decide +kernel : decode code 130 = .ok (.invokevirtual 53, 3)) wt_920 wt_921 wt_922 (by decide +kernel) (by decide) (by decide) (List.forall_mem_cons.mpr ⟨⟨_, _, rfl⟩, fun _ h => absurd h List.not_mem_nil⟩) (so_RMl (by decide) (by decide))) (so_JO_cons (so_je_V (n := 2) (cs := [9]) (tv := sf_vI) (kW_told l ns) mwX11_told (by decide +kernel : decode code 135 = .ok (.invokevirtual 53, 3)) wt_920 wt_921 wt_922 (by decide +kernel) (by decide) (by decide) (List.forall_mem_cons.mpr ⟨⟨_, _, rfl⟩, fun _ h => absurd h List.not_mem_nil⟩) (so_RMl (by decide) (by decide))) (so_JO_cons (so_je_V (n := 2) (cs := [9]) (tv := sf_vI) (kW_told l ns) mwX11_told (by decide +kernel : decode code 143 = .ok (.invokevirtual 53, 3)) wt_920 wt_921 wt_922 (by decide +kernel) (by decide) (by decide) (List.forall_mem_cons.mpr ⟨⟨_, _, rfl⟩, fun _ h => absurd h List.not_mem_nil⟩) (so_RMl (by decide) (by decide))) (so_JO_cons (so_je_V (n := 2) (cs := [9]) (tv := sf_vI) (kW_failure l ns) mwX11_failure (by decide +kernel : decode code 154 = .ok (.invokevirtual 60, 3)) wt_916 wt_917 wt_918 (by decide +kernel) (by decide) (by decide) (List.forall_mem_cons.mpr ⟨⟨_, _, rfl⟩, fun _ h => absurd h List.not_mem_nil⟩) (so_RMl (by decide) (by decide))) (so_JO_cons (so_je_V (n := 2) (cs := [9]) (tv := sf_vI) (kW_told l ns) mwX11_told (by decide +kernel : decode code 163 = .ok (.invokevirtual 53, 3)) wt_920 wt_921 wt_922 (by decide +kernel) (by decide) (by decide) (List.forall_mem_cons.mpr ⟨⟨_, _, rfl⟩, fun _ h => absurd h List.not_mem_nil⟩) (so_RMl (by decide) (by decide))) (so_JO_cons (so_je_V (n := 2) (cs := [9]) (tv := sf_vI) (kW_failure l ns) mwX11_failure (by decide +kernel : decode code 174 = .ok (.invokevirtual 60, 3)) wt_916 wt_917 wt_918 (by decide +kernel) (by decide) (by decide) (List.forall_mem_cons.mpr ⟨⟨_, _, rfl⟩, fun _ h => absurd h List.not_mem_nil⟩) (so_RMl (by decide) (by decide))) (so_JO_cons (so_je_V (n := 2) (cs := [9]) (tv := sf_vI) (kW_told l ns) mwX11_told (by decide +kernel : decode code 183 = .ok (.invokevirtual 53, 3)) wt_920 wt_921 wt_922 (by decide +kernel) (by decide) (by decide) (List.forall_mem_cons.mpr ⟨⟨_, _, rfl⟩, fun _ h => absurd h List.not_mem_nil⟩) (so_RMl (by decide) (by decide))) (so_JO_cons (so_je_V (n := 2) (cs := [9]) (tv := sf_vI) (kW_told l ns) mwX11_told (by decide +kernel : decode code 193 = .ok (.invokevirtual 53, 3)) wt_920 wt_921 wt_922 (by decide +kernel) (by decide) (by decide) (List.forall_mem_cons.mpr ⟨⟨_, _, rfl⟩, fun _ h => absurd h List.not_mem_nil⟩) (so_RMl (by decide) (by decide))) (so_JO_cons (so_je_V (n := 2) (cs := [9]) (tv := sf_vI) (kW_failure l ns) mwX11_failure (by decide +kernel : decode code 205 = .ok (.invokevirtual 60, 3)) wt_916 wt_917 wt_918 (by decide +kernel) (by decide) (by decide) (List.forall_mem_cons.mpr ⟨⟨_, _, rfl⟩, fun _ h => absurd h List.not_mem_nil⟩) (so_RMl (by decide) (by decide))) (so_JO_cons (so_je_V (n := 2) (cs := [9]) (tv := sf_vI) (kW_told l ns) mwX11_told (by decide +kernel : decode code 212 = .ok (.invokevirtual 53, 3)) wt_920 wt_921 wt_922 (by decide +kernel) (by decide) (by decide) (List.forall_mem_cons.mpr ⟨⟨_, _, rfl⟩, fun _ h => absurd h List.not_mem_nil⟩) (so_RMl (by decide) (by decide))) (so_JO_cons (so_je_V (n := 3) (cs := [9]) (tv := sf_vI) (kW_run l ns) mwX11_run (by decide +kernel : decode code 227 = .ok (.invokevirtual 80, 3)) wt_783 wt_784 wt_785 (by decide +kernel) (by decide) (by decide) (List.forall_mem_cons.mpr ⟨⟨_, _, rfl⟩, fun _ h => absurd h List.not_mem_nil⟩) (so_RMl (by decide) (by decide))) (so_JO_cons (so_je_V (n := 2) (cs := [9]) (tv := sf_vI) (kW_told l ns) mwX11_told (by decide +kernel : decode code 253 = .ok (.invokevirtual 53, 3)) wt_920 wt_921 wt_922 (by decide +kernel) (by decide) (by decide) (List.forall_mem_cons.mpr ⟨⟨_, _, rfl⟩, fun _ h => absurd h List.not_mem_nil⟩) (so_RMl (by decide) (by decide))) (so_JO_cons (so_je_V (n := 2) (cs := [9]) (tv := sf_vL) (kW_result l ns) mwX11_result (by decide +kernel : decode code 276 = .ok (.invokevirtual 49, 3)) wt_911 wt_912 wt_913 (by decide +kernel) (by decide) (by decide) (List.forall_mem_cons.mpr ⟨⟨_, _, rfl⟩, fun _ h => absurd h List.not_mem_nil⟩) (so_RMl (by decide) (by decide))) (so_JO_cons (so_je_V (n := 2) (cs := [9]) (tv := sf_vL) (kW_result l ns) mwX11_result (by decide +kernel : decode code 282 = .ok (.invokevirtual 49, 3)) wt_911 wt_912 wt_913 (by decide +kernel) (by decide) (by decide) (List.forall_mem_cons.mpr ⟨⟨_, _, rfl⟩, fun _ h => absurd h List.not_mem_nil⟩) (so_RMl (by decide) (by decide))) (so_JO_cons (so_je_V (n := 3) (cs := [9]) (tv := sf_vI) (kW_node l ns) mwX11_node (by decide +kernel : decode code 319 = .ok (.invokevirtual 87, 3)) wt_464 wt_465 wt_466 (by decide +kernel) (by decide) (by decide) (List.forall_mem_cons.mpr ⟨⟨_, _, rfl⟩, fun _ h => absurd h List.not_mem_nil⟩) (so_RMl (by decide) (by decide))) (so_JO_cons (so_je_V (n := 3) (cs := [9]) (tv := sf_vI) (kW_run l ns) mwX11_run (by decide +kernel : decode code 344 = .ok (.invokevirtual 80, 3)) wt_783 wt_784 wt_785 (by decide +kernel) (by decide) (by decide) (List.forall_mem_cons.mpr ⟨⟨_, _, rfl⟩, fun _ h => absurd h List.not_mem_nil⟩) (so_RMl (by decide) (by decide))) (so_JO_cons (so_je_V (n := 2) (cs := [9]) (tv := sf_vI) (kW_failure l ns) mwX11_failure (by decide +kernel : decode code 373 = .ok (.invokevirtual 60, 3)) wt_916 wt_917 wt_918 (by decide +kernel) (by decide) (by decide) (List.forall_mem_cons.mpr ⟨⟨_, _, rfl⟩, fun _ h => absurd h List.not_mem_nil⟩) (so_RMl (by decide) (by decide))) (so_JO_cons (so_je_V (n := 2) (cs := [9]) (tv := sf_vI) (kW_told l ns) mwX11_told (by decide +kernel : decode code 393 = .ok (.invokevirtual 53, 3)) wt_920 wt_921 wt_922 (by decide +kernel) (by decide) (by decide) (List.forall_mem_cons.mpr ⟨⟨_, _, rfl⟩, fun _ h => absurd h List.not_mem_nil⟩) (so_RMl (by decide) (by decide))) (so_JO_cons (so_je_V (n := 2) (cs := [9]) (tv := sf_vI) (kW_failure l ns) mwX11_failure (by decide +kernel : decode code 420 = .ok (.invokevirtual 60, 3)) wt_916 wt_917 wt_918 (by decide +kernel) (by decide) (by decide) (List.forall_mem_cons.mpr ⟨⟨_, _, rfl⟩, fun _ h => absurd h List.not_mem_nil⟩) (so_RMl (by decide) (by decide))) (so_JO_cons (so_je_V (n := 2) (cs := [9]) (tv := sf_vL) (kW_result l ns) mwX11_result (by decide +kernel : decode code 429 = .ok (.invokevirtual 49, 3)) wt_911 wt_912 wt_913 (by decide +kernel) (by decide) (by decide) (List.forall_mem_cons.mpr ⟨⟨_, _, rfl⟩, fun _ h => absurd h List.not_mem_nil⟩) (so_RMl (by decide) (by decide))) (so_JO_cons (so_je_V (n := 2) (cs := [9]) (tv := sf_vL) (kW_result l ns) mwX11_result (by decide +kernel : decode code 435 = .ok (.invokevirtual 49, 3)) wt_911 wt_912 wt_913 (by decide +kernel) (by decide) (by decide) (List.forall_mem_cons.mpr ⟨⟨_, _, rfl⟩, fun _ h => absurd h List.not_mem_nil⟩) (so_RMl (by decide) (by decide))) (so_JO_cons (so_je_V (n := 2) (cs := [9]) (tv := sf_vI) (kW_saves l ns) mwX11_saves (by decide +kernel : decode code 453 = .ok (.invokevirtual 90, 3)) wt_607 wt_608 wt_609 (by decide +kernel) (by decide) (by decide) (List.forall_mem_cons.mpr ⟨⟨_, _, rfl⟩, fun _ h => absurd h List.not_mem_nil⟩) (so_RMl (by decide) (by decide))) (so_JO_cons (so_je_V (n := 2) (cs := [9]) (tv := sf_vI) (kW_tidy l ns) mwX11_tidy (by decide +kernel : decode code 460 = .ok (.invokevirtual 93, 3)) wt_477 wt_478 wt_479 (by decide +kernel) (by decide) (by decide) (List.forall_mem_cons.mpr ⟨⟨_, _, rfl⟩, fun _ h => absurd h List.not_mem_nil⟩) (so_RMl (by decide) (by decide))) (so_JO_cons (so_je_V (n := 2) (cs := [9]) (tv := sf_vI) (kW_tidy l ns) mwX11_tidy (by decide +kernel : decode code 467 = .ok (.invokevirtual 93, 3)) wt_477 wt_478 wt_479 (by decide +kernel) (by decide) (by decide) (List.forall_mem_cons.mpr ⟨⟨_, _, rfl⟩, fun _ h => absurd h List.not_mem_nil⟩) (so_RMl (by decide) (by decide))) (so_JO_cons (so_je_V (n := 2) (cs := [9]) (tv := sf_vI) (kW_text l ns) mwX11_text (by decide +kernel : decode code 474 = .ok (.invokevirtual 43, 3)) wt_473 wt_474 wt_475 (by decide +kernel) (by decide) (by decide) (List.forall_mem_cons.mpr ⟨⟨_, _, rfl⟩, fun _ h => absurd h List.not_mem_nil⟩) (so_RMl (by decide) (by decide))) (so_JO_cons (so_je_V (n := 2) (cs := [9]) (tv := sf_vI) (kW_text l ns) mwX11_text (by decide +kernel : decode code 519 = .ok (.invokevirtual 43, 3)) wt_473 wt_474 wt_475 (by decide +kernel) (by decide) (by decide) (List.forall_mem_cons.mpr ⟨⟨_, _, rfl⟩, fun _ h => absurd h List.not_mem_nil⟩) (so_RMl (by decide) (by decide))) (so_JO_cons (so_je_V (n := 2) (cs := [9]) (tv := sf_vI) (kW_count l ns) mwX11_count (by decide +kernel : decode code 529 = .ok (.invokevirtual 46, 3)) wt_924 wt_925 wt_926 (by decide +kernel) (by decide) (by decide) (List.forall_mem_cons.mpr ⟨⟨_, _, rfl⟩, fun _ h => absurd h List.not_mem_nil⟩) (so_RMl (by decide) (by decide))) (so_JO_cons (so_je_V (n := 2) (cs := [9]) (tv := sf_vI) (kW_tidy l ns) mwX11_tidy (by decide +kernel : decode code 539 = .ok (.invokevirtual 93, 3)) wt_477 wt_478 wt_479 (by decide +kernel) (by decide) (by decide) (List.forall_mem_cons.mpr ⟨⟨_, _, rfl⟩, fun _ h => absurd h List.not_mem_nil⟩) (so_RMl (by decide) (by decide))) (so_JO_cons (so_je_V (n := 2) (cs := [9]) (tv := sf_vI) (kW_tidy l ns) mwX11_tidy (by decide +kernel : decode code 547 = .ok (.invokevirtual 93, 3)) wt_477 wt_478 wt_479 (by decide +kernel) (by decide) (by decide) (List.forall_mem_cons.mpr ⟨⟨_, _, rfl⟩, fun _ h => absurd h List.not_mem_nil⟩) (so_RMl (by decide) (by decide))) (so_JO_cons (so_je_V (n := 2) (cs := [9]) (tv := sf_vI) (kW_text l ns) mwX11_text (by decide +kernel : decode code 568 = .ok (.invokevirtual 43, 3)) wt_473 wt_474 wt_475 (by decide +kernel) (by decide) (by decide) (List.forall_mem_cons.mpr ⟨⟨_, _, rfl⟩, fun _ h => absurd h List.not_mem_nil⟩) (so_RMl (by decide) (by decide))) (so_JO_cons (so_je_V (n := 2) (cs := [9]) (tv := sf_vI) (kW_text l ns) mwX11_text (by decide +kernel : decode code 574 = .ok (.invokevirtual 43, 3)) wt_473 wt_474 wt_475 (by decide +kernel) (by decide) (by decide) (List.forall_mem_cons.mpr ⟨⟨_, _, rfl⟩, fun _ h => absurd h List.not_mem_nil⟩) (so_RMl (by decide) (by decide))) (so_JO_cons (so_je_V (n := 2) (cs := [9]) (tv := sf_vI) (kW_count l ns) mwX11_count (by decide +kernel : decode code 595 = .ok (.invokevirtual 46, 3)) wt_924 wt_925 wt_926 (by decide +kernel) (by decide) (by decide) (List.forall_mem_cons.mpr ⟨⟨_, _, rfl⟩, fun _ h => absurd h List.not_mem_nil⟩) (so_RMl (by decide) (by decide))) (so_JO_cons (so_je_V (n := 3) (cs := [9]) (tv := sf_vI) (kW_node l ns) mwX11_node (by decide +kernel : decode code 605 = .ok (.invokevirtual 87, 3)) wt_464 wt_465 wt_466 (by decide +kernel) (by decide) (by decide) (List.forall_mem_cons.mpr ⟨⟨_, _, rfl⟩, fun _ h => absurd h List.not_mem_nil⟩) (so_RMl (by decide) (by decide))) (so_JO_cons (so_je_V (n := 3) (cs := [9]) (tv := sf_vI) (kW_node l ns) mwX11_node (by decide +kernel : decode code 612 = .ok (.invokevirtual 87, 3)) wt_464 wt_465 wt_466 (by decide +kernel) (by decide) (by decide) (List.forall_mem_cons.mpr ⟨⟨_, _, rfl⟩, fun _ h => absurd h List.not_mem_nil⟩) (so_RMl (by decide) (by decide))) (so_JO_cons (so_je_V (n := 3) (cs := [9]) (tv := sf_vI) (kW_node l ns) mwX11_node (by decide +kernel : decode code 622 = .ok (.invokevirtual 87, 3)) wt_464 wt_465 wt_466 (by decide +kernel) (by decide) (by decide) (List.forall_mem_cons.mpr ⟨⟨_, _, rfl⟩, fun _ h => absurd h List.not_mem_nil⟩) (so_RMl (by decide) (by decide))) (so_JO_cons (so_je_V (n := 3) (cs := [9]) (tv := sf_vI) (kW_node l ns) mwX11_node (by decide +kernel : decode code 629 = .ok (.invokevirtual 87, 3)) wt_464 wt_465 wt_466 (by decide +kernel) (by decide) (by decide) (List.forall_mem_cons.mpr ⟨⟨_, _, rfl⟩, fun _ h => absurd h List.not_mem_nil⟩) (so_RMl (by decide) (by decide))) (so_JO_cons (so_je_V (n := 2) (cs := [9]) (tv := sf_vI) (kW_told l ns) mwX11_told (by decide +kernel : decode code 645 = .ok (.invokevirtual 53, 3)) wt_920 wt_921 wt_922 (by decide +kernel) (by decide) (by decide) (List.forall_mem_cons.mpr ⟨⟨_, _, rfl⟩, fun _ h => absurd h List.not_mem_nil⟩) (so_RMl (by decide) (by decide))) (so_JO_cons (so_je_V (n := 3) (cs := [9]) (tv := sf_vI) (kW_run l ns) mwX11_run (by decide +kernel : decode code 657 = .ok (.invokevirtual 80, 3)) wt_783 wt_784 wt_785 (by decide +kernel) (by decide) (by decide) (List.forall_mem_cons.mpr ⟨⟨_, _, rfl⟩, fun _ h => absurd h List.not_mem_nil⟩) (so_RMl (by decide) (by decide))) (so_JO_cons (so_je_V (n := 2) (cs := [9]) (tv := sf_vI) (kW_told l ns) mwX11_told (by decide +kernel : decode code 665 = .ok (.invokevirtual 53, 3)) wt_920 wt_921 wt_922 (by decide +kernel) (by decide) (by decide) (List.forall_mem_cons.mpr ⟨⟨_, _, rfl⟩, fun _ h => absurd h List.not_mem_nil⟩) (so_RMl (by decide) (by decide))) (so_JO_cons (so_je_S (n := 2) (tv := sf_vI) (kL_same l ns) mwL_same (by decide +kernel : decode code 684 = .ok (.invokestatic 83, 3)) wt_1010 wt_1011 (by decide +kernel) (so_RMl (by decide) (by decide))) (so_JO_cons (so_je_V (n := 3) (cs := [9]) (tv := sf_vI) (kW_run l ns) mwX11_run (by decide +kernel : decode code 696 = .ok (.invokevirtual 80, 3)) wt_783 wt_784 wt_785 (by decide +kernel) (by decide) (by decide) (List.forall_mem_cons.mpr ⟨⟨_, _, rfl⟩, fun _ h => absurd h List.not_mem_nil⟩) (so_RMl (by decide) (by decide))) (so_JO_cons (so_je_V (n := 2) (cs := [9]) (tv := sf_vI) (kW_count l ns) mwX11_count (by decide +kernel : decode code 701 = .ok (.invokevirtual 46, 3)) wt_924 wt_925 wt_926 (by decide +kernel) (by decide) (by decide) (List.forall_mem_cons.mpr ⟨⟨_, _, rfl⟩, fun _ h => absurd h List.not_mem_nil⟩) (so_RMl (by decide) (by decide))) (so_JO_cons (so_je_S (n := 2) (tv := sf_vI) (kL_same l ns) mwL_same (by decide +kernel : decode code 709 = .ok (.invokestatic 83, 3)) wt_1010 wt_1011 (by decide +kernel) (so_RMl (by decide) (by decide))) (so_JO_cons (so_je_V (n := 2) (cs := [9]) (tv := sf_vI) (kW_told l ns) mwX11_told (by decide +kernel : decode code 717 = .ok (.invokevirtual 53, 3)) wt_920 wt_921 wt_922 (by decide +kernel) (by decide) (by decide) (List.forall_mem_cons.mpr ⟨⟨_, _, rfl⟩, fun _ h => absurd h List.not_mem_nil⟩) (so_RMl (by decide) (by decide))) (so_JO_cons (so_je_V (n := 2) (cs := [9]) (tv := sf_vI) (kW_saves l ns) mwX11_saves (by decide +kernel : decode code 731 = .ok (.invokevirtual 90, 3)) wt_607 wt_608 wt_609 (by decide +kernel) (by decide) (by decide) (List.forall_mem_cons.mpr ⟨⟨_, _, rfl⟩, fun _ h => absurd h List.not_mem_nil⟩) (so_RMl (by decide) (by decide))) (so_JO_nil))))))))))))))))))))))))))))))))))))))))))))))))))))))
