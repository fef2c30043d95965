/-! ===== 18.X0 ===== -/
noncomputable abbrev gX0_askG (G : Nat → Int32 → Int32 → sf_S → Option (Int32 × sf_S)) (av : List Value) (σ : sf_S) : Option (Int32 × sf_S) := match av with
  | [.ref q, .int x1, .int x2] => (match sf_rv [23, 55] q with | true => G q x1 x2 σ | false => none)
  | _ => none
-- ===== StreamFuser$Asker.askFilter(II)Z =====
abbrev tX0_askFilter : List (Nat × sf_E) := [(0, (.iconst 0, 1, 0, .int (0), [], [])), (1, (.istore_n 3, 2, 0, .null, [], [])), (2, (.iload_n 3, 3, 0, .null, [], [])), (3, (.ldc 84, 5, 0, .int (1000000), [], [])), (5, (.if_icmp .ge 38, 8, 43, .null, [], [])), (8, (.aload_n 0, 9, 0, .null, [], [])), (9, (.iload_n 1, 10, 0, .null, [], [])), (10, (.iconst 1, 11, 0, .int (1), [], [])), (11, (.iadd, 12, 0, .null, [], [])), (12, (.iload_n 2, 13, 0, .null, [], [])), (13, (.iconst 1, 14, 0, .int (1), [], [])), (14, (.iadd, 15, 0, .null, [], [])), (15, (.invokevirtual 35, 18, 0, .null, [], [])), (18, (.ifCond .ne 5, 21, 23, .null, [], [])), (21, (.iconst 0, 22, 0, .int (0), [], [])), (22, (.ireturn, 23, 0, .null, [], [])), (23, (.aload_n 0, 24, 0, .null, [], [])), (24, (.iload_n 1, 25, 0, .null, [], [])), (25, (.aload_n 0, 26, 0, .null, [], [])), (26, (.getfield 39, 29, 0, .null, [], [(0, 6), (1, 4), (8, 6)])), (29, (.invokevirtual 85, 32, 0, .null, [], [])), (32, (.ifCond .eq 5, 35, 37, .null, [], [])), (35, (.iconst 1, 36, 0, .int (1), [], [])), (36, (.ireturn, 37, 0, .null, [], [])), (37, (.iinc 3 1, 40, 0, .int (1), [], [])), (40, (.goto (-38), 43, 2, .null, [], [])), (43, (.iconst 0, 44, 0, .int (0), [], [])), (44, (.ireturn, 45, 0, .null, [], []))]
noncomputable abbrev jX0_askFilter (G : Nat → Int32 → Int32 → sf_S → Option (Int32 × sf_S)) : List (Nat × sf_J (Int32 × sf_S)) := [(15, sf_jI sf_layC [0] 3 (gX0_askG G)), (29, sf_jI sf_layC [0] 3 gX10_passes)]
abbrev wX0_askFilter_2 {ρ : Type} (q : Nat) (k : Int32 → Int32 → Int32 → sf_S → Option ρ) : sf_M ρ := fun L st σ => sf_lda L 0 fun a0 => sf_eq a0 q (sf_ldi L 1 fun x1 => sf_ldi L 2 fun x2 => sf_ldi L 3 fun x3 => sf_nil st (k x1 x2 x3 σ))
theorem wX0_askFilter_2_ok {ρ : Type} {Wt : Nat → sf_L → List Value → sf_S → Prop} {Post : ρ → Prop} (hm : sf_mono Wt) {q : Nat} {k : Int32 → Int32 → Int32 → sf_S → Option ρ} (h : ∀ (x1 : Int32) (x2 : Int32) (x3 : Int32) (σ : sf_S) (u : ρ), k x1 x2 x3 σ = some u → Post u → Wt 2 [(0, some (.ref q)), (1, some (.int x1)), (2, some (.int x2)), (3, some (.int x3))] [] σ) : sf_CK Wt Post 2 (wX0_askFilter_2 q k) := by
  intro L st σ u hf hp
  unfold wX0_askFilter_2 at hf
  have hf0 := hf
  obtain ⟨a0, e0, hf1⟩ := sf_lda_inv hf0
  obtain ⟨rfl, hf2⟩ := sf_eq_inv hf1
  obtain ⟨x1, e1, hf3⟩ := sf_ldi_inv hf2
  obtain ⟨x2, e2, hf4⟩ := sf_ldi_inv hf3
  obtain ⟨x3, e3, hf5⟩ := sf_ldi_inv hf4
  obtain ⟨rfl, hz⟩ := sf_nil_inv hf5
  exact hm _ [(0, some (.ref _)), (1, some (.int x1)), (2, some (.int x2)), (3, some (.int x3))] _ _ _ (sf_le_ok (And.intro e0 (And.intro e1 (And.intro e2 (And.intro e3 trivial))))) (h _ _ _ _ _ hz hp)
noncomputable def dX0_askFilter_2 (G : Nat → Int32 → Int32 → sf_S → Option (Int32 × sf_S)) (q : Nat) : Nat → Int32 → Int32 → Int32 → sf_S → Option (Int32 × sf_S)
  | 0 => fun _ _ _ _ => none
  | n + 1 => fun x1 x2 x3 σ =>
    if (1000000 : Int32) ≤ x3 then
      some ((0 : Int32), σ)
    else
      (G q (x1 + (1 : Int32)) (x2 + (1 : Int32)) σ).bind fun u1 =>
      if ¬ u1.1 = 0 then
        (dX10_passes q x1 (u1.2 q (sf_vl q)) u1.2).bind fun u2 =>
        if u2.1 = 0 then
          dX0_askFilter_2 G q n x1 x2 (x3 + (1 : Int32)) u2.2
        else
          some ((1 : Int32), u2.2)
      else
        some ((0 : Int32), u1.2)
set_option maxRecDepth 100000 in
set_option maxHeartbeats 4000000 in
theorem rX0_askFilter_2 {Wt : Nat → sf_L → List Value → sf_S → Prop} {Post : (Int32 × sf_S) → Prop} {G : Nat → Int32 → Int32 → sf_S → Option (Int32 × sf_S)} (hs : sf_Snd Wt sf_layC sf_hZ (jX0_askFilter G) tX0_askFilter Post) (hm : sf_mono Wt) {q : Nat} (hq : q = 23 ∨ q = 55) : ∀ n : Nat, sf_CK Wt Post 2 (wX0_askFilter_2 q (dX0_askFilter_2 G q n)) := by
  intro n
  induction n with
  | zero => exact wX0_askFilter_2_ok hm (fun x1 x2 x3 σ u h _ => by simp [dX0_askFilter_2] at h)
  | succ n ih =>
    refine wX0_askFilter_2_ok hm ?_
    intro x1 x2 x3 σ u h hp
    rcases hq with rfl | rfl
    · exact sf_run_ok hs (sf_sm_cons ih sf_sm_nil) 33 2 _ _ σ u h hp
    · exact sf_run_ok hs (sf_sm_cons ih sf_sm_nil) 33 2 _ _ σ u h hp
noncomputable def dX0_askFilter (G : Nat → Int32 → Int32 → sf_S → Option (Int32 × sf_S)) (q : Nat) (x1 : Int32) (x2 : Int32) (σ : sf_S) : Option (Int32 × sf_S) :=
  dX0_askFilter_2 G q sf_F x1 x2 (0 : Int32) σ
noncomputable abbrev gX0_askFilter (G : Nat → Int32 → Int32 → sf_S → Option (Int32 × sf_S)) (av : List Value) (σ : sf_S) : Option (Int32 × sf_S) := match av with
  | [.ref q, .int x1, .int x2] => (match sf_rv [23, 55] q with | true => dX0_askFilter G q x1 x2 σ | false => none)
  | _ => none
set_option maxRecDepth 100000 in
set_option maxHeartbeats 4000000 in
theorem rX0_askFilter {Wt : Nat → sf_L → List Value → sf_S → Prop} {Post : (Int32 × sf_S) → Prop} {G : Nat → Int32 → Int32 → sf_S → Option (Int32 × sf_S)} (hs : sf_Snd Wt sf_layC sf_hZ (jX0_askFilter G) tX0_askFilter Post) (hm : sf_mono Wt) : ∀ av σ u, gX0_askFilter G av σ = some u → Post u → (∀ ad, (lg_sl (av.map (sf_v ad))).length ≤ 4) ∧ Wt 0 (sf_ent 0 av) [] σ := by
  intro av σ u h hp
  unfold gX0_askFilter at h
  split at h
  · rename_i q x1 x2
    split at h
    · rename_i hq
      have hq : q = 23 ∨ q = 55 := by simpa using sf_rv_mem hq
      refine ⟨fun ad => Nat.le_of_ble_eq_true rfl, ?_⟩
      rcases hq with rfl | rfl
      · exact sf_run_ok hs (sf_sm_cons (rX0_askFilter_2 hs hm (Or.inl rfl) sf_F) sf_sm_nil) 33 0 _ _ σ u h hp
      · exact sf_run_ok hs (sf_sm_cons (rX0_askFilter_2 hs hm (Or.inr rfl) sf_F) sf_sm_nil) 33 0 _ _ σ u h hp
    · cases h
  · cases h
theorem kX0_askFilter (l : Launch) {f o : Nat} {G : Nat → Int32 → Int32 → sf_S → Option (Int32 × sf_S)} (hG : sf_C l sf_layC yX0_ask cX0_ask 3 (some .boolean) (sf_rm f o) (fun av σ => (gX0_askG G av σ).map sf_vI)) : sf_C l sf_layC yX0_askFilter cX0_askFilter 4 (some .boolean) (sf_rm (f + 9) (o + 350)) (fun av σ => (gX0_askFilter G av σ).map sf_vI) :=
  sf_met (tab := tX0_askFilter) (J := jX0_askFilter G) (fl := sf_fl0) (cl := sf_cl0) (by decide +kernel) ⟨rfl, rfl⟩ sf_RH_Z (by decide +kernel) sf_fl0_ok sf_cl0_ok
    (sf_JO_cons (sf_je_V (n := 3) (cs := [0]) (tv := sf_vI) hG mwX0_ask (by decide +kernel : decode cX0_askFilter 15 = .ok (.invokevirtual 35, 3)) wt_635 wt_637 wt_29 (by decide +kernel) (by decide) (by decide) (List.forall_mem_cons.mpr ⟨⟨_, _, rfl⟩, fun _ h => absurd h List.not_mem_nil⟩) (sf_RM_of (by omega) (by omega))) (sf_JO_cons (sf_je_U (n := 3) (cs := [0]) (tv := sf_vI) (kX10_passes l) mwX10_passes (by decide +kernel : decode cX0_askFilter 29 = .ok (.invokevirtual 85, 3)) wt_670 wt_674 wt_671 rfl (by decide +kernel) (by decide) (by decide) (List.forall_mem_cons.mpr ⟨⟨_, _, _, rfl, wt_673⟩, fun _ h => absurd h List.not_mem_nil⟩) (sf_RM_of (by omega) (by omega))) (sf_JO_nil)))
    (fun Wt Post hs hm => rX0_askFilter hs hm)
-- ===== StreamFuser$Asker.askWhile(II)Z =====
abbrev tX0_askWhile : List (Nat × sf_E) := [(0, (.aload_n 0, 1, 0, .null, [], [])), (1, (.getfield 88, 4, 0, .null, [], [(0, 1), (8, 1)])), (4, (.iload_n 1, 5, 0, .null, [], [])), (5, (.baload, 6, 0, .null, [], [])), (6, (.ifCond .ne 16, 9, 22, .null, [], [])), (9, (.aload_n 0, 10, 0, .null, [], [])), (10, (.iload_n 1, 11, 0, .null, [], [])), (11, (.iconst 1, 12, 0, .int (1), [], [])), (12, (.iadd, 13, 0, .null, [], [])), (13, (.iload_n 2, 14, 0, .null, [], [])), (14, (.iconst 1, 15, 0, .int (1), [], [])), (15, (.iadd, 16, 0, .null, [], [])), (16, (.invokevirtual 35, 19, 0, .null, [], [])), (19, (.ifCond .ne 5, 22, 24, .null, [], [])), (22, (.iconst 0, 23, 0, .int (0), [], [])), (23, (.ireturn, 24, 0, .null, [], [])), (24, (.aload_n 0, 25, 0, .null, [], [])), (25, (.getfield 88, 28, 0, .null, [], [(0, 1), (8, 1)])), (28, (.iload_n 1, 29, 0, .null, [], [])), (29, (.aload_n 0, 30, 0, .null, [], [])), (30, (.iload_n 1, 31, 0, .null, [], [])), (31, (.aload_n 0, 32, 0, .null, [], [])), (32, (.getfield 39, 35, 0, .null, [], [(0, 6), (1, 4), (8, 6)])), (35, (.invokevirtual 85, 38, 0, .null, [], [])), (38, (.ifCond .ne 7, 41, 45, .null, [], [])), (41, (.iconst 1, 42, 0, .int (1), [], [])), (42, (.goto 4, 45, 46, .null, [], [])), (45, (.iconst 0, 46, 0, .int (0), [], [])), (46, (.bastore, 47, 0, .null, [], [])), (47, (.aload_n 0, 48, 0, .null, [], [])), (48, (.getfield 88, 51, 0, .null, [], [(0, 1), (8, 1)])), (51, (.iload_n 1, 52, 0, .null, [], [])), (52, (.baload, 53, 0, .null, [], [])), (53, (.ifCond .ne 7, 56, 60, .null, [], [])), (56, (.iconst 1, 57, 0, .int (1), [], [])), (57, (.goto 4, 60, 61, .null, [], [])), (60, (.iconst 0, 61, 0, .int (0), [], [])), (61, (.ireturn, 62, 0, .null, [], []))]
noncomputable abbrev jX0_askWhile (G : Nat → Int32 → Int32 → sf_S → Option (Int32 × sf_S)) : List (Nat × sf_J (Int32 × sf_S)) := [(16, sf_jI sf_layC [0] 3 (gX0_askG G)), (35, sf_jI sf_layC [0] 3 gX10_passes)]
abbrev wX0_askWhile_46 {ρ : Type} (q : Nat) (k : Int32 → Int32 → Int32 → sf_S → Option ρ) : sf_M ρ := fun L st σ => sf_lda L 0 fun a0 => sf_eq a0 q (sf_ldi L 1 fun x1 => sf_i1 st fun y0 st => sf_i1 st fun y1 st => sf_a1 st fun b2 st => sf_eq b2 (q + 2) (sf_nil st (k x1 y0 y1 σ)))
theorem wX0_askWhile_46_ok {ρ : Type} {Wt : Nat → sf_L → List Value → sf_S → Prop} {Post : ρ → Prop} (hm : sf_mono Wt) {q : Nat} {k : Int32 → Int32 → Int32 → sf_S → Option ρ} (h : ∀ (x1 : Int32) (y0 : Int32) (y1 : Int32) (σ : sf_S) (u : ρ), k x1 y0 y1 σ = some u → Post u → Wt 46 [(0, some (.ref q)), (1, some (.int x1))] [.int y0, .int y1, .ref (q + 2)] σ) : sf_CK Wt Post 46 (wX0_askWhile_46 q k) := by
  intro L st σ u hf hp
  unfold wX0_askWhile_46 at hf
  have hf0 := hf
  obtain ⟨a0, e0, hf1⟩ := sf_lda_inv hf0
  obtain ⟨rfl, hf2⟩ := sf_eq_inv hf1
  obtain ⟨x1, e1, hf3⟩ := sf_ldi_inv hf2
  obtain ⟨y0, st, rfl, hf4⟩ := sf_i1_inv hf3
  obtain ⟨y1, st, rfl, hf5⟩ := sf_i1_inv hf4
  obtain ⟨b2, st, rfl, hf6⟩ := sf_a1_inv hf5
  obtain ⟨rfl, hf7⟩ := sf_eq_inv hf6
  obtain ⟨rfl, hz⟩ := sf_nil_inv hf7
  exact hm _ [(0, some (.ref _)), (1, some (.int x1))] _ _ _ (sf_le_ok (And.intro e0 (And.intro e1 trivial))) (h _ _ _ _ _ hz hp)
noncomputable def dX0_askWhile_46 (G : Nat → Int32 → Int32 → sf_S → Option (Int32 × sf_S)) (q : Nat) (x1 : Int32) (y0 : Int32) (y1 : Int32) (σ : sf_S) : Option (Int32 × sf_S) :=
  if sf_in y1 40 then
    let s1 := sf_up σ (q + 2) y1.toNatClampNeg (vp_nar .boolean y0)
    if sf_in x1 40 then
      if ¬ (s1 (q + 2) x1.toNatClampNeg) = 0 then
        some ((0 : Int32), s1)
      else
        some ((1 : Int32), s1)
    else
      none
  else
    none
set_option maxRecDepth 100000 in
set_option maxHeartbeats 4000000 in
theorem rX0_askWhile_46 {Wt : Nat → sf_L → List Value → sf_S → Prop} {Post : (Int32 × sf_S) → Prop} {G : Nat → Int32 → Int32 → sf_S → Option (Int32 × sf_S)} (hs : sf_Snd Wt sf_layC sf_hZ (jX0_askWhile G) tX0_askWhile Post) (hm : sf_mono Wt) {q : Nat} (hq : q = 23 ∨ q = 55) : sf_CK Wt Post 46 (wX0_askWhile_46 q (dX0_askWhile_46 G q)) := by
  refine wX0_askWhile_46_ok hm ?_
  intro x1 y0 y1 σ u h hp
  rcases hq with rfl | rfl
  · exact sf_run_ok hs sf_sm_nil 43 46 _ _ σ u h hp
  · exact sf_run_ok hs sf_sm_nil 43 46 _ _ σ u h hp
noncomputable def dX0_askWhile (G : Nat → Int32 → Int32 → sf_S → Option (Int32 × sf_S)) (q : Nat) (x1 : Int32) (x2 : Int32) (σ : sf_S) : Option (Int32 × sf_S) :=
  if sf_in x1 40 then
    if ¬ (σ (q + 2) x1.toNatClampNeg) = 0 then
      some ((0 : Int32), σ)
    else
      (G q (x1 + (1 : Int32)) (x2 + (1 : Int32)) σ).bind fun u1 =>
      if ¬ u1.1 = 0 then
        (dX10_passes q x1 (u1.2 q (sf_vl q)) u1.2).bind fun u2 =>
        if ¬ u2.1 = 0 then
          dX0_askWhile_46 G q x1 (0 : Int32) x1 u2.2
        else
          dX0_askWhile_46 G q x1 (1 : Int32) x1 u2.2
      else
        some ((0 : Int32), u1.2)
  else
    none
noncomputable abbrev gX0_askWhile (G : Nat → Int32 → Int32 → sf_S → Option (Int32 × sf_S)) (av : List Value) (σ : sf_S) : Option (Int32 × sf_S) := match av with
  | [.ref q, .int x1, .int x2] => (match sf_rv [23, 55] q with | true => dX0_askWhile G q x1 x2 σ | false => none)
  | _ => none
set_option maxRecDepth 100000 in
set_option maxHeartbeats 4000000 in
theorem rX0_askWhile {Wt : Nat → sf_L → List Value → sf_S → Prop} {Post : (Int32 × sf_S) → Prop} {G : Nat → Int32 → Int32 → sf_S → Option (Int32 × sf_S)} (hs : sf_Snd Wt sf_layC sf_hZ (jX0_askWhile G) tX0_askWhile Post) (hm : sf_mono Wt) : ∀ av σ u, gX0_askWhile G av σ = some u → Post u → (∀ ad, (lg_sl (av.map (sf_v ad))).length ≤ 3) ∧ Wt 0 (sf_ent 0 av) [] σ := by
  intro av σ u h hp
  unfold gX0_askWhile at h
  split at h
  · rename_i q x1 x2
    split at h
    · rename_i hq
      have hq : q = 23 ∨ q = 55 := by simpa using sf_rv_mem hq
      refine ⟨fun ad => Nat.le_of_ble_eq_true rfl, ?_⟩
      rcases hq with rfl | rfl
      · exact sf_run_ok hs (sf_sm_cons (rX0_askWhile_46 hs hm (Or.inl rfl)) sf_sm_nil) 43 0 _ _ σ u h hp
      · exact sf_run_ok hs (sf_sm_cons (rX0_askWhile_46 hs hm (Or.inr rfl)) sf_sm_nil) 43 0 _ _ σ u h hp
    · cases h
  · cases h
theorem kX0_askWhile (l : Launch) {f o : Nat} {G : Nat → Int32 → Int32 → sf_S → Option (Int32 × sf_S)} (hG : sf_C l sf_layC yX0_ask cX0_ask 3 (some .boolean) (sf_rm f o) (fun av σ => (gX0_askG G av σ).map sf_vI)) : sf_C l sf_layC yX0_askWhile cX0_askWhile 3 (some .boolean) (sf_rm (f + 9) (o + 350)) (fun av σ => (gX0_askWhile G av σ).map sf_vI) :=
  sf_met (tab := tX0_askWhile) (J := jX0_askWhile G) (fl := sf_fl0) (cl := sf_cl0) (by decide +kernel) ⟨rfl, rfl⟩ sf_RH_Z (by decide +kernel) sf_fl0_ok sf_cl0_ok
    (sf_JO_cons (sf_je_V (n := 3) (cs := [0]) (tv := sf_vI) hG mwX0_ask (by decide +kernel : decode cX0_askWhile 16 = .ok (.invokevirtual 35, 3)) wt_635 wt_637 wt_29 (by decide +kernel) (by decide) (by decide) (List.forall_mem_cons.mpr ⟨⟨_, _, rfl⟩, fun _ h => absurd h List.not_mem_nil⟩) (sf_RM_of (by omega) (by omega))) (sf_JO_cons (sf_je_U (n := 3) (cs := [0]) (tv := sf_vI) (kX10_passes l) mwX10_passes (by decide +kernel : decode cX0_askWhile 35 = .ok (.invokevirtual 85, 3)) wt_670 wt_674 wt_671 rfl (by decide +kernel) (by decide) (by decide) (List.forall_mem_cons.mpr ⟨⟨_, _, _, rfl, wt_673⟩, fun _ h => absurd h List.not_mem_nil⟩) (sf_RM_of (by omega) (by omega))) (sf_JO_nil)))
    (fun Wt Post hs hm => rX0_askWhile hs hm)
-- ===== StreamFuser$Asker.askTake(II)Z =====
abbrev tX0_askTake : List (Nat × sf_E) := [(0, (.aload_n 0, 1, 0, .null, [], [])), (1, (.getfield 92, 4, 0, .null, [], [(0, 0), (8, 0)])), (4, (.iload_n 1, 5, 0, .null, [], [])), (5, (.iaload, 6, 0, .null, [], [])), (6, (.aload_n 0, 7, 0, .null, [], [])), (7, (.getfield 21, 10, 0, .null, [], [(0, 2), (1, 0), (8, 2)])), (10, (.getfield 95, 13, 0, .null, [], [(2, 2)])), (13, (.iload_n 1, 14, 0, .null, [], [])), (14, (.iaload, 15, 0, .null, [], [])), (15, (.if_icmp .ge 16, 18, 31, .null, [], [])), (18, (.aload_n 0, 19, 0, .null, [], [])), (19, (.iload_n 1, 20, 0, .null, [], [])), (20, (.iconst 1, 21, 0, .int (1), [], [])), (21, (.iadd, 22, 0, .null, [], [])), (22, (.iload_n 2, 23, 0, .null, [], [])), (23, (.iconst 1, 24, 0, .int (1), [], [])), (24, (.iadd, 25, 0, .null, [], [])), (25, (.invokevirtual 35, 28, 0, .null, [], [])), (28, (.ifCond .ne 5, 31, 33, .null, [], [])), (31, (.iconst 0, 32, 0, .int (0), [], [])), (32, (.ireturn, 33, 0, .null, [], [])), (33, (.aload_n 0, 34, 0, .null, [], [])), (34, (.getfield 92, 37, 0, .null, [], [(0, 0), (8, 0)])), (37, (.iload_n 1, 38, 0, .null, [], [])), (38, (.dup2, 39, 0, .null, [], [])), (39, (.iaload, 40, 0, .null, [], [])), (40, (.iconst 1, 41, 0, .int (1), [], [])), (41, (.iadd, 42, 0, .null, [], [])), (42, (.iastore, 43, 0, .null, [], [])), (43, (.iconst 1, 44, 0, .int (1), [], [])), (44, (.ireturn, 45, 0, .null, [], []))]
noncomputable abbrev jX0_askTake (G : Nat → Int32 → Int32 → sf_S → Option (Int32 × sf_S)) : List (Nat × sf_J (Int32 × sf_S)) := [(25, sf_jI sf_layC [0] 3 (gX0_askG G))]
noncomputable def dX0_askTake (G : Nat → Int32 → Int32 → sf_S → Option (Int32 × sf_S)) (q : Nat) (x1 : Int32) (x2 : Int32) (σ : sf_S) : Option (Int32 × sf_S) :=
  if sf_in x1 40 then
    if sf_in x1 40 then
      if (σ ((sf_pl q) + 3) x1.toNatClampNeg) ≤ (σ (q + 1) x1.toNatClampNeg) then
        some ((0 : Int32), σ)
      else
        (G q (x1 + (1 : Int32)) (x2 + (1 : Int32)) σ).bind fun u1 =>
        if ¬ u1.1 = 0 then
          if sf_in x1 40 then
            if sf_in x1 40 then
              let s2 := sf_up u1.2 (q + 1) x1.toNatClampNeg ((u1.2 (q + 1) x1.toNatClampNeg) + (1 : Int32))
              some ((1 : Int32), s2)
            else
              none
          else
            none
        else
          some ((0 : Int32), u1.2)
    else
      none
  else
    none
noncomputable abbrev gX0_askTake (G : Nat → Int32 → Int32 → sf_S → Option (Int32 × sf_S)) (av : List Value) (σ : sf_S) : Option (Int32 × sf_S) := match av with
  | [.ref q, .int x1, .int x2] => (match sf_rv [23, 55] q with | true => dX0_askTake G q x1 x2 σ | false => none)
  | _ => none
set_option maxRecDepth 100000 in
set_option maxHeartbeats 4000000 in
theorem rX0_askTake {Wt : Nat → sf_L → List Value → sf_S → Prop} {Post : (Int32 × sf_S) → Prop} {G : Nat → Int32 → Int32 → sf_S → Option (Int32 × sf_S)} (hs : sf_Snd Wt sf_layC sf_hZ (jX0_askTake G) tX0_askTake Post) (hm : sf_mono Wt) : ∀ av σ u, gX0_askTake G av σ = some u → Post u → (∀ ad, (lg_sl (av.map (sf_v ad))).length ≤ 3) ∧ Wt 0 (sf_ent 0 av) [] σ := by
  intro av σ u h hp
  unfold gX0_askTake at h
  split at h
  · rename_i q x1 x2
    split at h
    · rename_i hq
      have hq : q = 23 ∨ q = 55 := by simpa using sf_rv_mem hq
      refine ⟨fun ad => Nat.le_of_ble_eq_true rfl, ?_⟩
      rcases hq with rfl | rfl
      · exact sf_run_ok hs sf_sm_nil 36 0 _ _ σ u h hp
      · exact sf_run_ok hs sf_sm_nil 36 0 _ _ σ u h hp
    · cases h
  · cases h
theorem kX0_askTake (l : Launch) {f o : Nat} {G : Nat → Int32 → Int32 → sf_S → Option (Int32 × sf_S)} (hG : sf_C l sf_layC yX0_ask cX0_ask 3 (some .boolean) (sf_rm f o) (fun av σ => (gX0_askG G av σ).map sf_vI)) : sf_C l sf_layC yX0_askTake cX0_askTake 3 (some .boolean) (sf_rm (f + 9) (o + 350)) (fun av σ => (gX0_askTake G av σ).map sf_vI) :=
  sf_met (tab := tX0_askTake) (J := jX0_askTake G) (fl := sf_fl0) (cl := sf_cl0) (by decide +kernel) ⟨rfl, rfl⟩ sf_RH_Z (by decide +kernel) sf_fl0_ok sf_cl0_ok
    (sf_JO_cons (sf_je_V (n := 3) (cs := [0]) (tv := sf_vI) hG mwX0_ask (by decide +kernel : decode cX0_askTake 25 = .ok (.invokevirtual 35, 3)) wt_635 wt_637 wt_29 (by decide +kernel) (by decide) (by decide) (List.forall_mem_cons.mpr ⟨⟨_, _, rfl⟩, fun _ h => absurd h List.not_mem_nil⟩) (sf_RM_of (by omega) (by omega))) (sf_JO_nil))
    (fun Wt Post hs hm => rX0_askTake hs hm)
-- ===== StreamFuser$Asker.askDrop(II)Z =====
abbrev tX0_askDrop : List (Nat × sf_E) := [(0, (.aload_n 0, 1, 0, .null, [], [])), (1, (.getfield 21, 4, 0, .null, [], [(0, 2), (1, 0), (8, 2)])), (4, (.getfield 95, 7, 0, .null, [], [(2, 2)])), (7, (.iload_n 1, 8, 0, .null, [], [])), (8, (.iaload, 9, 0, .null, [], [])), (9, (.ldc 84, 11, 0, .int (1000000), [], [])), (11, (.invokestatic 98, 14, 0, .null, [], [])), (14, (.istore_n 3, 15, 0, .null, [], [])), (15, (.aload_n 0, 16, 0, .null, [], [])), (16, (.getfield 92, 19, 0, .null, [], [(0, 0), (8, 0)])), (19, (.iload_n 1, 20, 0, .null, [], [])), (20, (.iaload, 21, 0, .null, [], [])), (21, (.istore 4, 23, 0, .null, [], [])), (23, (.iload 4, 25, 0, .null, [], [])), (25, (.iload_n 3, 26, 0, .null, [], [])), (26, (.if_icmp .ge 52, 29, 78, .null, [], [])), (29, (.aload_n 0, 30, 0, .null, [], [])), (30, (.getfield 88, 33, 0, .null, [], [(0, 1), (8, 1)])), (33, (.iload_n 1, 34, 0, .null, [], [])), (34, (.baload, 35, 0, .null, [], [])), (35, (.ifCond .ne 43, 38, 78, .null, [], [])), (38, (.aload_n 0, 39, 0, .null, [], [])), (39, (.getfield 92, 42, 0, .null, [], [(0, 0), (8, 0)])), (42, (.iload_n 1, 43, 0, .null, [], [])), (43, (.dup2, 44, 0, .null, [], [])), (44, (.iaload, 45, 0, .null, [], [])), (45, (.iconst 1, 46, 0, .int (1), [], [])), (46, (.iadd, 47, 0, .null, [], [])), (47, (.iastore, 48, 0, .null, [], [])), (48, (.aload_n 0, 49, 0, .null, [], [])), (49, (.getfield 88, 52, 0, .null, [], [(0, 1), (8, 1)])), (52, (.iload_n 1, 53, 0, .null, [], [])), (53, (.aload_n 0, 54, 0, .null, [], [])), (54, (.iload_n 1, 55, 0, .null, [], [])), (55, (.iconst 1, 56, 0, .int (1), [], [])), (56, (.iadd, 57, 0, .null, [], [])), (57, (.iload_n 2, 58, 0, .null, [], [])), (58, (.iconst 1, 59, 0, .int (1), [], [])), (59, (.iadd, 60, 0, .null, [], [])), (60, (.invokevirtual 35, 63, 0, .null, [], [])), (63, (.ifCond .ne 7, 66, 70, .null, [], [])), (66, (.iconst 1, 67, 0, .int (1), [], [])), (67, (.goto 4, 70, 71, .null, [], [])), (70, (.iconst 0, 71, 0, .int (0), [], [])), (71, (.bastore, 72, 0, .null, [], [])), (72, (.iinc 4 1, 75, 0, .int (1), [], [])), (75, (.goto (-52), 78, 23, .null, [], [])), (78, (.aload_n 0, 79, 0, .null, [], [])), (79, (.getfield 88, 82, 0, .null, [], [(0, 1), (8, 1)])), (82, (.iload_n 1, 83, 0, .null, [], [])), (83, (.baload, 84, 0, .null, [], [])), (84, (.ifCond .eq 5, 87, 89, .null, [], [])), (87, (.iconst 0, 88, 0, .int (0), [], [])), (88, (.ireturn, 89, 0, .null, [], [])), (89, (.aload_n 0, 90, 0, .null, [], [])), (90, (.getfield 88, 93, 0, .null, [], [(0, 1), (8, 1)])), (93, (.iload_n 1, 94, 0, .null, [], [])), (94, (.aload_n 0, 95, 0, .null, [], [])), (95, (.iload_n 1, 96, 0, .null, [], [])), (96, (.iconst 1, 97, 0, .int (1), [], [])), (97, (.iadd, 98, 0, .null, [], [])), (98, (.iload_n 2, 99, 0, .null, [], [])), (99, (.iconst 1, 100, 0, .int (1), [], [])), (100, (.iadd, 101, 0, .null, [], [])), (101, (.invokevirtual 35, 104, 0, .null, [], [])), (104, (.ifCond .ne 7, 107, 111, .null, [], [])), (107, (.iconst 1, 108, 0, .int (1), [], [])), (108, (.goto 4, 111, 112, .null, [], [])), (111, (.iconst 0, 112, 0, .int (0), [], [])), (112, (.bastore, 113, 0, .null, [], [])), (113, (.aload_n 0, 114, 0, .null, [], [])), (114, (.getfield 88, 117, 0, .null, [], [(0, 1), (8, 1)])), (117, (.iload_n 1, 118, 0, .null, [], [])), (118, (.baload, 119, 0, .null, [], [])), (119, (.ifCond .ne 7, 122, 126, .null, [], [])), (122, (.iconst 1, 123, 0, .int (1), [], [])), (123, (.goto 4, 126, 127, .null, [], [])), (126, (.iconst 0, 127, 0, .int (0), [], [])), (127, (.ireturn, 128, 0, .null, [], []))]
noncomputable abbrev jX0_askDrop (G : Nat → Int32 → Int32 → sf_S → Option (Int32 × sf_S)) : List (Nat × sf_J (Int32 × sf_S)) := [(11, sf_jmin), (60, sf_jI sf_layC [0] 3 (gX0_askG G)), (101, sf_jI sf_layC [0] 3 (gX0_askG G))]
abbrev wX0_askDrop_112 {ρ : Type} (q : Nat) (k : Int32 → Int32 → Int32 → sf_S → Option ρ) : sf_M ρ := fun L st σ => sf_lda L 0 fun a0 => sf_eq a0 q (sf_ldi L 1 fun x1 => sf_i1 st fun y0 st => sf_i1 st fun y1 st => sf_a1 st fun b2 st => sf_eq b2 (q + 2) (sf_nil st (k x1 y0 y1 σ)))
theorem wX0_askDrop_112_ok {ρ : Type} {Wt : Nat → sf_L → List Value → sf_S → Prop} {Post : ρ → Prop} (hm : sf_mono Wt) {q : Nat} {k : Int32 → Int32 → Int32 → sf_S → Option ρ} (h : ∀ (x1 : Int32) (y0 : Int32) (y1 : Int32) (σ : sf_S) (u : ρ), k x1 y0 y1 σ = some u → Post u → Wt 112 [(0, some (.ref q)), (1, some (.int x1))] [.int y0, .int y1, .ref (q + 2)] σ) : sf_CK Wt Post 112 (wX0_askDrop_112 q k) := by
  intro L st σ u hf hp
  unfold wX0_askDrop_112 at hf
  have hf0 := hf
  obtain ⟨a0, e0, hf1⟩ := sf_lda_inv hf0
  obtain ⟨rfl, hf2⟩ := sf_eq_inv hf1
  obtain ⟨x1, e1, hf3⟩ := sf_ldi_inv hf2
  obtain ⟨y0, st, rfl, hf4⟩ := sf_i1_inv hf3
  obtain ⟨y1, st, rfl, hf5⟩ := sf_i1_inv hf4
  obtain ⟨b2, st, rfl, hf6⟩ := sf_a1_inv hf5
  obtain ⟨rfl, hf7⟩ := sf_eq_inv hf6
  obtain ⟨rfl, hz⟩ := sf_nil_inv hf7
  exact hm _ [(0, some (.ref _)), (1, some (.int x1))] _ _ _ (sf_le_ok (And.intro e0 (And.intro e1 trivial))) (h _ _ _ _ _ hz hp)
abbrev wX0_askDrop_78 {ρ : Type} (q : Nat) (k : Int32 → Int32 → sf_S → Option ρ) : sf_M ρ := fun L st σ => sf_lda L 0 fun a0 => sf_eq a0 q (sf_ldi L 1 fun x1 => sf_ldi L 2 fun x2 => sf_nil st (k x1 x2 σ))
theorem wX0_askDrop_78_ok {ρ : Type} {Wt : Nat → sf_L → List Value → sf_S → Prop} {Post : ρ → Prop} (hm : sf_mono Wt) {q : Nat} {k : Int32 → Int32 → sf_S → Option ρ} (h : ∀ (x1 : Int32) (x2 : Int32) (σ : sf_S) (u : ρ), k x1 x2 σ = some u → Post u → Wt 78 [(0, some (.ref q)), (1, some (.int x1)), (2, some (.int x2))] [] σ) : sf_CK Wt Post 78 (wX0_askDrop_78 q k) := by
  intro L st σ u hf hp
  unfold wX0_askDrop_78 at hf
  have hf0 := hf
  obtain ⟨a0, e0, hf1⟩ := sf_lda_inv hf0
  obtain ⟨rfl, hf2⟩ := sf_eq_inv hf1
  obtain ⟨x1, e1, hf3⟩ := sf_ldi_inv hf2
  obtain ⟨x2, e2, hf4⟩ := sf_ldi_inv hf3
  obtain ⟨rfl, hz⟩ := sf_nil_inv hf4
  exact hm _ [(0, some (.ref _)), (1, some (.int x1)), (2, some (.int x2))] _ _ _ (sf_le_ok (And.intro e0 (And.intro e1 (And.intro e2 trivial)))) (h _ _ _ _ hz hp)
abbrev wX0_askDrop_23 {ρ : Type} (q : Nat) (k : Int32 → Int32 → Int32 → Int32 → sf_S → Option ρ) : sf_M ρ := fun L st σ => sf_lda L 0 fun a0 => sf_eq a0 q (sf_ldi L 1 fun x1 => sf_ldi L 2 fun x2 => sf_ldi L 3 fun x3 => sf_ldi L 4 fun x4 => sf_nil st (k x1 x2 x3 x4 σ))
theorem wX0_askDrop_23_ok {ρ : Type} {Wt : Nat → sf_L → List Value → sf_S → Prop} {Post : ρ → Prop} (hm : sf_mono Wt) {q : Nat} {k : Int32 → Int32 → Int32 → Int32 → sf_S → Option ρ} (h : ∀ (x1 : Int32) (x2 : Int32) (x3 : Int32) (x4 : Int32) (σ : sf_S) (u : ρ), k x1 x2 x3 x4 σ = some u → Post u → Wt 23 [(0, some (.ref q)), (1, some (.int x1)), (2, some (.int x2)), (3, some (.int x3)), (4, some (.int x4))] [] σ) : sf_CK Wt Post 23 (wX0_askDrop_23 q k) := by
  intro L st σ u hf hp
  unfold wX0_askDrop_23 at hf
  have hf0 := hf
  obtain ⟨a0, e0, hf1⟩ := sf_lda_inv hf0
  obtain ⟨rfl, hf2⟩ := sf_eq_inv hf1
  obtain ⟨x1, e1, hf3⟩ := sf_ldi_inv hf2
  obtain ⟨x2, e2, hf4⟩ := sf_ldi_inv hf3
  obtain ⟨x3, e3, hf5⟩ := sf_ldi_inv hf4
  obtain ⟨x4, e4, hf6⟩ := sf_ldi_inv hf5
  obtain ⟨rfl, hz⟩ := sf_nil_inv hf6
  exact hm _ [(0, some (.ref _)), (1, some (.int x1)), (2, some (.int x2)), (3, some (.int x3)), (4, some (.int x4))] _ _ _ (sf_le_ok (And.intro e0 (And.intro e1 (And.intro e2 (And.intro e3 (And.intro e4 trivial)))))) (h _ _ _ _ _ _ hz hp)
noncomputable def dX0_askDrop_112 (G : Nat → Int32 → Int32 → sf_S → Option (Int32 × sf_S)) (q : Nat) (x1 : Int32) (y0 : Int32) (y1 : Int32) (σ : sf_S) : Option (Int32 × sf_S) :=
  if sf_in y1 40 then
    let s1 := sf_up σ (q + 2) y1.toNatClampNeg (vp_nar .boolean y0)
    if sf_in x1 40 then
      if ¬ (s1 (q + 2) x1.toNatClampNeg) = 0 then
        some ((0 : Int32), s1)
      else
        some ((1 : Int32), s1)
    else
      none
  else
    none
set_option maxRecDepth 100000 in
set_option maxHeartbeats 4000000 in
theorem rX0_askDrop_112 {Wt : Nat → sf_L → List Value → sf_S → Prop} {Post : (Int32 × sf_S) → Prop} {G : Nat → Int32 → Int32 → sf_S → Option (Int32 × sf_S)} (hs : sf_Snd Wt sf_layC sf_hZ (jX0_askDrop G) tX0_askDrop Post) (hm : sf_mono Wt) {q : Nat} (hq : q = 23 ∨ q = 55) : sf_CK Wt Post 112 (wX0_askDrop_112 q (dX0_askDrop_112 G q)) := by
  refine wX0_askDrop_112_ok hm ?_
  intro x1 y0 y1 σ u h hp
  rcases hq with rfl | rfl
  · exact sf_run_ok hs sf_sm_nil 84 112 _ _ σ u h hp
  · exact sf_run_ok hs sf_sm_nil 84 112 _ _ σ u h hp
noncomputable def dX0_askDrop_78 (G : Nat → Int32 → Int32 → sf_S → Option (Int32 × sf_S)) (q : Nat) (x1 : Int32) (x2 : Int32) (σ : sf_S) : Option (Int32 × sf_S) :=
  if sf_in x1 40 then
    if (σ (q + 2) x1.toNatClampNeg) = 0 then
      (G q (x1 + (1 : Int32)) (x2 + (1 : Int32)) σ).bind fun u1 =>
      if ¬ u1.1 = 0 then
        dX0_askDrop_112 G q x1 (0 : Int32) x1 u1.2
      else
        dX0_askDrop_112 G q x1 (1 : Int32) x1 u1.2
    else
      some ((0 : Int32), σ)
  else
    none
set_option maxRecDepth 100000 in
set_option maxHeartbeats 4000000 in
theorem rX0_askDrop_78 {Wt : Nat → sf_L → List Value → sf_S → Prop} {Post : (Int32 × sf_S) → Prop} {G : Nat → Int32 → Int32 → sf_S → Option (Int32 × sf_S)} (hs : sf_Snd Wt sf_layC sf_hZ (jX0_askDrop G) tX0_askDrop Post) (hm : sf_mono Wt) {q : Nat} (hq : q = 23 ∨ q = 55) : sf_CK Wt Post 78 (wX0_askDrop_78 q (dX0_askDrop_78 G q)) := by
  refine wX0_askDrop_78_ok hm ?_
  intro x1 x2 σ u h hp
  rcases hq with rfl | rfl
  · exact sf_run_ok hs (sf_sm_cons (rX0_askDrop_112 hs hm (Or.inl rfl)) sf_sm_nil) 84 78 _ _ σ u h hp
  · exact sf_run_ok hs (sf_sm_cons (rX0_askDrop_112 hs hm (Or.inr rfl)) sf_sm_nil) 84 78 _ _ σ u h hp
noncomputable def dX0_askDrop_23 (G : Nat → Int32 → Int32 → sf_S → Option (Int32 × sf_S)) (q : Nat) : Nat → Int32 → Int32 → Int32 → Int32 → sf_S → Option (Int32 × sf_S)
  | 0 => fun _ _ _ _ _ => none
  | n + 1 => fun x1 x2 x3 x4 σ =>
    if x3 ≤ x4 then
      dX0_askDrop_78 G q x1 x2 σ
    else
      if sf_in x1 40 then
        if ¬ (σ (q + 2) x1.toNatClampNeg) = 0 then
          dX0_askDrop_78 G q x1 x2 σ
        else
          if sf_in x1 40 then
            if sf_in x1 40 then
              let s1 := sf_up σ (q + 1) x1.toNatClampNeg ((σ (q + 1) x1.toNatClampNeg) + (1 : Int32))
              (G q (x1 + (1 : Int32)) (x2 + (1 : Int32)) s1).bind fun u2 =>
              if ¬ u2.1 = 0 then
                if sf_in x1 40 then
                  let s3 := sf_up u2.2 (q + 2) x1.toNatClampNeg (vp_nar .boolean (0 : Int32))
                  dX0_askDrop_23 G q n x1 x2 x3 (x4 + (1 : Int32)) s3
                else
                  none
              else
                if sf_in x1 40 then
                  let s4 := sf_up u2.2 (q + 2) x1.toNatClampNeg (vp_nar .boolean (1 : Int32))
                  dX0_askDrop_23 G q n x1 x2 x3 (x4 + (1 : Int32)) s4
                else
                  none
            else
              none
          else
            none
      else
        none
set_option maxRecDepth 100000 in
set_option maxHeartbeats 4000000 in
theorem rX0_askDrop_23 {Wt : Nat → sf_L → List Value → sf_S → Prop} {Post : (Int32 × sf_S) → Prop} {G : Nat → Int32 → Int32 → sf_S → Option (Int32 × sf_S)} (hs : sf_Snd Wt sf_layC sf_hZ (jX0_askDrop G) tX0_askDrop Post) (hm : sf_mono Wt) {q : Nat} (hq : q = 23 ∨ q = 55) : ∀ n : Nat, sf_CK Wt Post 23 (wX0_askDrop_23 q (dX0_askDrop_23 G q n)) := by
  intro n
  induction n with
  | zero => exact wX0_askDrop_23_ok hm (fun x1 x2 x3 x4 σ u h _ => by simp [dX0_askDrop_23] at h)
  | succ n ih =>
    refine wX0_askDrop_23_ok hm ?_
    intro x1 x2 x3 x4 σ u h hp
    rcases hq with rfl | rfl
    · exact sf_run_ok hs (sf_sm_cons ih (sf_sm_cons (rX0_askDrop_78 hs hm (Or.inl rfl)) sf_sm_nil)) 84 23 _ _ σ u h hp
    · exact sf_run_ok hs (sf_sm_cons ih (sf_sm_cons (rX0_askDrop_78 hs hm (Or.inr rfl)) sf_sm_nil)) 84 23 _ _ σ u h hp
noncomputable def dX0_askDrop (G : Nat → Int32 → Int32 → sf_S → Option (Int32 × sf_S)) (q : Nat) (x1 : Int32) (x2 : Int32) (σ : sf_S) : Option (Int32 × sf_S) :=
  if sf_in x1 40 then
    let v1 := (σ ((sf_pl q) + 3) x1.toNatClampNeg)
    let v2 := (if (1000000 : Int32) < v1 then (1000000 : Int32) else v1)
    if sf_in x1 40 then
      let v3 := (σ (q + 1) x1.toNatClampNeg)
      dX0_askDrop_23 G q sf_F x1 x2 v2 v3 σ
    else
      none
  else
    none
noncomputable abbrev gX0_askDrop (G : Nat → Int32 → Int32 → sf_S → Option (Int32 × sf_S)) (av : List Value) (σ : sf_S) : Option (Int32 × sf_S) := match av with
  | [.ref q, .int x1, .int x2] => (match sf_rv [23, 55] q with | true => dX0_askDrop G q x1 x2 σ | false => none)
  | _ => none
set_option maxRecDepth 100000 in
set_option maxHeartbeats 4000000 in
theorem rX0_askDrop {Wt : Nat → sf_L → List Value → sf_S → Prop} {Post : (Int32 × sf_S) → Prop} {G : Nat → Int32 → Int32 → sf_S → Option (Int32 × sf_S)} (hs : sf_Snd Wt sf_layC sf_hZ (jX0_askDrop G) tX0_askDrop Post) (hm : sf_mono Wt) : ∀ av σ u, gX0_askDrop G av σ = some u → Post u → (∀ ad, (lg_sl (av.map (sf_v ad))).length ≤ 5) ∧ Wt 0 (sf_ent 0 av) [] σ := by
  intro av σ u h hp
  unfold gX0_askDrop at h
  split at h
  · rename_i q x1 x2
    split at h
    · rename_i hq
      have hq : q = 23 ∨ q = 55 := by simpa using sf_rv_mem hq
      refine ⟨fun ad => Nat.le_of_ble_eq_true rfl, ?_⟩
      rcases hq with rfl | rfl
      · exact sf_run_ok hs (sf_sm_cons (rX0_askDrop_23 hs hm (Or.inl rfl) sf_F) sf_sm_nil) 84 0 _ _ σ u h hp
      · exact sf_run_ok hs (sf_sm_cons (rX0_askDrop_23 hs hm (Or.inr rfl) sf_F) sf_sm_nil) 84 0 _ _ σ u h hp
    · cases h
  · cases h
theorem kX0_askDrop (l : Launch) {f o : Nat} {G : Nat → Int32 → Int32 → sf_S → Option (Int32 × sf_S)} (hG : sf_C l sf_layC yX0_ask cX0_ask 3 (some .boolean) (sf_rm f o) (fun av σ => (gX0_askG G av σ).map sf_vI)) : sf_C l sf_layC yX0_askDrop cX0_askDrop 5 (some .boolean) (sf_rm (f + 9) (o + 350)) (fun av σ => (gX0_askDrop G av σ).map sf_vI) :=
  sf_met (tab := tX0_askDrop) (J := jX0_askDrop G) (fl := sf_fl0) (cl := sf_cl0) (by decide +kernel) ⟨rfl, rfl⟩ sf_RH_Z (by decide +kernel) sf_fl0_ok sf_cl0_ok
    (sf_JO_cons (sf_je_min (by decide +kernel : decode cX0_askDrop 11 = .ok (.invokestatic 98, 3)) wt_688 wt_559 wt_89 wt_560 (sf_RB_of (by omega) (by omega))) (sf_JO_cons (sf_je_V (n := 3) (cs := [0]) (tv := sf_vI) hG mwX0_ask (by decide +kernel : decode cX0_askDrop 60 = .ok (.invokevirtual 35, 3)) wt_635 wt_637 wt_29 (by decide +kernel) (by decide) (by decide) (List.forall_mem_cons.mpr ⟨⟨_, _, rfl⟩, fun _ h => absurd h List.not_mem_nil⟩) (sf_RM_of (by omega) (by omega))) (sf_JO_cons (sf_je_V (n := 3) (cs := [0]) (tv := sf_vI) hG mwX0_ask (by decide +kernel : decode cX0_askDrop 101 = .ok (.invokevirtual 35, 3)) wt_635 wt_637 wt_29 (by decide +kernel) (by decide) (by decide) (List.forall_mem_cons.mpr ⟨⟨_, _, rfl⟩, fun _ h => absurd h List.not_mem_nil⟩) (sf_RM_of (by omega) (by omega))) (sf_JO_nil))))
    (fun Wt Post hs hm => rX0_askDrop hs hm)
-- ===== StreamFuser$Asker.askChain(II)Z =====
abbrev tX0_askChain : List (Nat × sf_E) := [(0, (.aload_n 0, 1, 0, .null, [], [])), (1, (.getfield 88, 4, 0, .null, [], [(0, 1), (8, 1)])), (4, (.iload_n 1, 5, 0, .null, [], [])), (5, (.baload, 6, 0, .null, [], [])), (6, (.ifCond .ne 37, 9, 43, .null, [], [])), (9, (.aload_n 0, 10, 0, .null, [], [])), (10, (.iload_n 1, 11, 0, .null, [], [])), (11, (.iconst 1, 12, 0, .int (1), [], [])), (12, (.iadd, 13, 0, .null, [], [])), (13, (.iload_n 2, 14, 0, .null, [], [])), (14, (.iconst 1, 15, 0, .int (1), [], [])), (15, (.iadd, 16, 0, .null, [], [])), (16, (.invokevirtual 35, 19, 0, .null, [], [])), (19, (.ifCond .eq 5, 22, 24, .null, [], [])), (22, (.iconst 1, 23, 0, .int (1), [], [])), (23, (.ireturn, 24, 0, .null, [], [])), (24, (.aload_n 0, 25, 0, .null, [], [])), (25, (.getfield 9, 28, 0, .null, [], [(0, 3), (1, 1), (8, 3)])), (28, (.invokevirtual 104, 31, 0, .null, [], [])), (31, (.ifCond .eq 5, 34, 36, .null, [], [])), (34, (.iconst 0, 35, 0, .int (0), [], [])), (35, (.ireturn, 36, 0, .null, [], [])), (36, (.aload_n 0, 37, 0, .null, [], [])), (37, (.getfield 88, 40, 0, .null, [], [(0, 1), (8, 1)])), (40, (.iload_n 1, 41, 0, .null, [], [])), (41, (.iconst 1, 42, 0, .int (1), [], [])), (42, (.bastore, 43, 0, .null, [], [])), (43, (.aload_n 0, 44, 0, .null, [], [])), (44, (.aload_n 0, 45, 0, .null, [], [])), (45, (.getfield 21, 48, 0, .null, [], [(0, 2), (1, 0), (8, 2)])), (48, (.iload_n 1, 49, 0, .null, [], [])), (49, (.invokevirtual 108, 52, 0, .null, [], [])), (52, (.iload_n 2, 53, 0, .null, [], [])), (53, (.iconst 1, 54, 0, .int (1), [], [])), (54, (.iadd, 55, 0, .null, [], [])), (55, (.invokevirtual 35, 58, 0, .null, [], [])), (58, (.ireturn, 59, 0, .null, [], []))]
noncomputable abbrev jX0_askChain (G : Nat → Int32 → Int32 → sf_S → Option (Int32 × sf_S)) : List (Nat × sf_J (Int32 × sf_S)) := [(16, sf_jI sf_layC [0] 3 (gX0_askG G)), (28, sf_jI sf_layC [6] 1 gX6_failed), (49, sf_jI sf_layC [2] 2 gX2_secondPart), (55, sf_jI sf_layC [0] 3 (gX0_askG G))]
abbrev wX0_askChain_43 {ρ : Type} (q : Nat) (k : Int32 → Int32 → sf_S → Option ρ) : sf_M ρ := fun L st σ => sf_lda L 0 fun a0 => sf_eq a0 q (sf_ldi L 1 fun x1 => sf_ldi L 2 fun x2 => sf_nil st (k x1 x2 σ))
theorem wX0_askChain_43_ok {ρ : Type} {Wt : Nat → sf_L → List Value → sf_S → Prop} {Post : ρ → Prop} (hm : sf_mono Wt) {q : Nat} {k : Int32 → Int32 → sf_S → Option ρ} (h : ∀ (x1 : Int32) (x2 : Int32) (σ : sf_S) (u : ρ), k x1 x2 σ = some u → Post u → Wt 43 [(0, some (.ref q)), (1, some (.int x1)), (2, some (.int x2))] [] σ) : sf_CK Wt Post 43 (wX0_askChain_43 q k) := by
  intro L st σ u hf hp
  unfold wX0_askChain_43 at hf
  have hf0 := hf
  obtain ⟨a0, e0, hf1⟩ := sf_lda_inv hf0
  obtain ⟨rfl, hf2⟩ := sf_eq_inv hf1
  obtain ⟨x1, e1, hf3⟩ := sf_ldi_inv hf2
  obtain ⟨x2, e2, hf4⟩ := sf_ldi_inv hf3
  obtain ⟨rfl, hz⟩ := sf_nil_inv hf4
  exact hm _ [(0, some (.ref _)), (1, some (.int x1)), (2, some (.int x2))] _ _ _ (sf_le_ok (And.intro e0 (And.intro e1 (And.intro e2 trivial)))) (h _ _ _ _ hz hp)
noncomputable def dX0_askChain_43 (G : Nat → Int32 → Int32 → sf_S → Option (Int32 × sf_S)) (q : Nat) (x1 : Int32) (x2 : Int32) (σ : sf_S) : Option (Int32 × sf_S) :=
  (dX2_secondPart (sf_pl q) x1 σ).bind fun u1 =>
  (G q u1.1 (x2 + (1 : Int32)) u1.2).bind fun u2 =>
  if sf_01 u2.1 then some (u2.1, u2.2) else none
set_option maxRecDepth 100000 in
set_option maxHeartbeats 4000000 in
theorem rX0_askChain_43 {Wt : Nat → sf_L → List Value → sf_S → Prop} {Post : (Int32 × sf_S) → Prop} {G : Nat → Int32 → Int32 → sf_S → Option (Int32 × sf_S)} (hs : sf_Snd Wt sf_layC sf_hZ (jX0_askChain G) tX0_askChain Post) (hm : sf_mono Wt) {q : Nat} (hq : q = 23 ∨ q = 55) : sf_CK Wt Post 43 (wX0_askChain_43 q (dX0_askChain_43 G q)) := by
  refine wX0_askChain_43_ok hm ?_
  intro x1 x2 σ u h hp
  rcases hq with rfl | rfl
  · exact sf_run_ok hs sf_sm_nil 42 43 _ _ σ u h hp
  · exact sf_run_ok hs sf_sm_nil 42 43 _ _ σ u h hp
noncomputable def dX0_askChain (G : Nat → Int32 → Int32 → sf_S → Option (Int32 × sf_S)) (q : Nat) (x1 : Int32) (x2 : Int32) (σ : sf_S) : Option (Int32 × sf_S) :=
  if sf_in x1 40 then
    if ¬ (σ (q + 2) x1.toNatClampNeg) = 0 then
      dX0_askChain_43 G q x1 x2 σ
    else
      (G q (x1 + (1 : Int32)) (x2 + (1 : Int32)) σ).bind fun u1 =>
      if u1.1 = 0 then
        (dX6_failed (sf_rn q) u1.2).bind fun u2 =>
        if u2.1 = 0 then
          if sf_in x1 40 then
            let s3 := sf_up u2.2 (q + 2) x1.toNatClampNeg (vp_nar .boolean (1 : Int32))
            dX0_askChain_43 G q x1 x2 s3
          else
            none
        else
          some ((0 : Int32), u2.2)
      else
        some ((1 : Int32), u1.2)
  else
    none
noncomputable abbrev gX0_askChain (G : Nat → Int32 → Int32 → sf_S → Option (Int32 × sf_S)) (av : List Value) (σ : sf_S) : Option (Int32 × sf_S) := match av with
  | [.ref q, .int x1, .int x2] => (match sf_rv [23, 55] q with | true => dX0_askChain G q x1 x2 σ | false => none)
  | _ => none
set_option maxRecDepth 100000 in
set_option maxHeartbeats 4000000 in
theorem rX0_askChain {Wt : Nat → sf_L → List Value → sf_S → Prop} {Post : (Int32 × sf_S) → Prop} {G : Nat → Int32 → Int32 → sf_S → Option (Int32 × sf_S)} (hs : sf_Snd Wt sf_layC sf_hZ (jX0_askChain G) tX0_askChain Post) (hm : sf_mono Wt) : ∀ av σ u, gX0_askChain G av σ = some u → Post u → (∀ ad, (lg_sl (av.map (sf_v ad))).length ≤ 3) ∧ Wt 0 (sf_ent 0 av) [] σ := by
  intro av σ u h hp
  unfold gX0_askChain at h
  split at h
  · rename_i q x1 x2
    split at h
    · rename_i hq
      have hq : q = 23 ∨ q = 55 := by simpa using sf_rv_mem hq
      refine ⟨fun ad => Nat.le_of_ble_eq_true rfl, ?_⟩
      rcases hq with rfl | rfl
      · exact sf_run_ok hs (sf_sm_cons (rX0_askChain_43 hs hm (Or.inl rfl)) sf_sm_nil) 42 0 _ _ σ u h hp
      · exact sf_run_ok hs (sf_sm_cons (rX0_askChain_43 hs hm (Or.inr rfl)) sf_sm_nil) 42 0 _ _ σ u h hp
    · cases h
  · cases h
theorem kX0_askChain (l : Launch) {f o : Nat} {G : Nat → Int32 → Int32 → sf_S → Option (Int32 × sf_S)} (hG : sf_C l sf_layC yX0_ask cX0_ask 3 (some .boolean) (sf_rm f o) (fun av σ => (gX0_askG G av σ).map sf_vI)) : sf_C l sf_layC yX0_askChain cX0_askChain 3 (some .boolean) (sf_rm (f + 9) (o + 350)) (fun av σ => (gX0_askChain G av σ).map sf_vI) :=
  sf_met (tab := tX0_askChain) (J := jX0_askChain G) (fl := sf_fl0) (cl := sf_cl0) (by decide +kernel) ⟨rfl, rfl⟩ sf_RH_Z (by decide +kernel) sf_fl0_ok sf_cl0_ok
    (sf_JO_cons (sf_je_V (n := 3) (cs := [0]) (tv := sf_vI) hG mwX0_ask (by decide +kernel : decode cX0_askChain 16 = .ok (.invokevirtual 35, 3)) wt_635 wt_637 wt_29 (by decide +kernel) (by decide) (by decide) (List.forall_mem_cons.mpr ⟨⟨_, _, rfl⟩, fun _ h => absurd h List.not_mem_nil⟩) (sf_RM_of (by omega) (by omega))) (sf_JO_cons (sf_je_N (n := 1) (cs := [6]) (tv := sf_vI) "StreamFuser" (kX6_failed l) mwX6_failed (by decide +kernel : decode cX0_askChain 28 = .ok (.invokevirtual 104, 3)) wt_693 wt_695 wt_37 (by decide +kernel) (by decide) (by decide) (List.forall_mem_cons.mpr ⟨⟨_, _, rfl⟩, fun _ h => absurd h List.not_mem_nil⟩) (sf_RM_of (by omega) (by omega))) (sf_JO_cons (sf_je_N (n := 2) (cs := [2]) (tv := sf_vI) "StreamFuser" (kX2_secondPart l) mwX2_secondPart (by decide +kernel : decode cX0_askChain 49 = .ok (.invokevirtual 108, 3)) wt_697 wt_514 wt_8 (by decide +kernel) (by decide) (by decide) (List.forall_mem_cons.mpr ⟨⟨_, _, rfl⟩, fun _ h => absurd h List.not_mem_nil⟩) (sf_RM_of (by omega) (by omega))) (sf_JO_cons (sf_je_V (n := 3) (cs := [0]) (tv := sf_vI) hG mwX0_ask (by decide +kernel : decode cX0_askChain 55 = .ok (.invokevirtual 35, 3)) wt_635 wt_637 wt_29 (by decide +kernel) (by decide) (by decide) (List.forall_mem_cons.mpr ⟨⟨_, _, rfl⟩, fun _ h => absurd h List.not_mem_nil⟩) (sf_RM_of (by omega) (by omega))) (sf_JO_nil)))))
    (fun Wt Post hs hm => rX0_askChain hs hm)
-- ===== StreamFuser$Asker.askZip(II)Z =====
abbrev tX0_askZip : List (Nat × sf_E) := [(0, (.aload_n 0, 1, 0, .null, [], [])), (1, (.iload_n 1, 2, 0, .null, [], [])), (2, (.iconst 1, 3, 0, .int (1), [], [])), (3, (.iadd, 4, 0, .null, [], [])), (4, (.iload_n 2, 5, 0, .null, [], [])), (5, (.iconst 1, 6, 0, .int (1), [], [])), (6, (.iadd, 7, 0, .null, [], [])), (7, (.invokevirtual 35, 10, 0, .null, [], [])), (10, (.ifCond .ne 5, 13, 15, .null, [], [])), (13, (.iconst 0, 14, 0, .int (0), [], [])), (14, (.ireturn, 15, 0, .null, [], [])), (15, (.aload_n 0, 16, 0, .null, [], [])), (16, (.getfield 39, 19, 0, .null, [], [(0, 6), (1, 4), (8, 6)])), (19, (.istore_n 3, 20, 0, .null, [], [])), (20, (.aload_n 0, 21, 0, .null, [], [])), (21, (.aload_n 0, 22, 0, .null, [], [])), (22, (.getfield 21, 25, 0, .null, [], [(0, 2), (1, 0), (8, 2)])), (25, (.iload_n 1, 26, 0, .null, [], [])), (26, (.invokevirtual 108, 29, 0, .null, [], [])), (29, (.iload_n 2, 30, 0, .null, [], [])), (30, (.iconst 1, 31, 0, .int (1), [], [])), (31, (.iadd, 32, 0, .null, [], [])), (32, (.invokevirtual 35, 35, 0, .null, [], [])), (35, (.ifCond .ne 5, 38, 40, .null, [], [])), (38, (.iconst 0, 39, 0, .int (0), [], [])), (39, (.ireturn, 40, 0, .null, [], [])), (40, (.aload_n 0, 41, 0, .null, [], [])), (41, (.aload_n 0, 42, 0, .null, [], [])), (42, (.iload_n 1, 43, 0, .null, [], [])), (43, (.iload_n 3, 44, 0, .null, [], [])), (44, (.aload_n 0, 45, 0, .null, [], [])), (45, (.getfield 39, 48, 0, .null, [], [(0, 6), (1, 4), (8, 6)])), (48, (.invokevirtual 112, 51, 0, .null, [], [])), (51, (.putfield 39, 54, 0, .null, [], [(0, 6), (1, 4), (8, 6)])), (54, (.iconst 1, 55, 0, .int (1), [], [])), (55, (.ireturn, 56, 0, .null, [], []))]
noncomputable abbrev jX0_askZip (G : Nat → Int32 → Int32 → sf_S → Option (Int32 × sf_S)) : List (Nat × sf_J (Int32 × sf_S)) := [(7, sf_jI sf_layC [0] 3 (gX0_askG G)), (26, sf_jI sf_layC [2] 2 gX2_secondPart), (32, sf_jI sf_layC [0] 3 (gX0_askG G)), (48, sf_jI sf_layC [0] 4 gX10_join)]
noncomputable def dX0_askZip (G : Nat → Int32 → Int32 → sf_S → Option (Int32 × sf_S)) (q : Nat) (x1 : Int32) (x2 : Int32) (σ : sf_S) : Option (Int32 × sf_S) :=
  (G q (x1 + (1 : Int32)) (x2 + (1 : Int32)) σ).bind fun u1 =>
  if ¬ u1.1 = 0 then
    let v2 := (u1.2 q (sf_vl q))
    (dX2_secondPart (sf_pl q) x1 u1.2).bind fun u3 =>
    (G q u3.1 (x2 + (1 : Int32)) u3.2).bind fun u4 =>
    if ¬ u4.1 = 0 then
      (dX10_join q x1 v2 (u4.2 q (sf_vl q)) u4.2).bind fun u5 =>
      let s6 := sf_up u5.2 q (sf_vl q) u5.1
      some ((1 : Int32), s6)
    else
      some ((0 : Int32), u4.2)
  else
    some ((0 : Int32), u1.2)
noncomputable abbrev gX0_askZip (G : Nat → Int32 → Int32 → sf_S → Option (Int32 × sf_S)) (av : List Value) (σ : sf_S) : Option (Int32 × sf_S) := match av with
  | [.ref q, .int x1, .int x2] => (match sf_rv [23, 55] q with | true => dX0_askZip G q x1 x2 σ | false => none)
  | _ => none
set_option maxRecDepth 100000 in
set_option maxHeartbeats 4000000 in
theorem rX0_askZip {Wt : Nat → sf_L → List Value → sf_S → Prop} {Post : (Int32 × sf_S) → Prop} {G : Nat → Int32 → Int32 → sf_S → Option (Int32 × sf_S)} (hs : sf_Snd Wt sf_layC sf_hZ (jX0_askZip G) tX0_askZip Post) (hm : sf_mono Wt) : ∀ av σ u, gX0_askZip G av σ = some u → Post u → (∀ ad, (lg_sl (av.map (sf_v ad))).length ≤ 4) ∧ Wt 0 (sf_ent 0 av) [] σ := by
  intro av σ u h hp
  unfold gX0_askZip at h
  split at h
  · rename_i q x1 x2
    split at h
    · rename_i hq
      have hq : q = 23 ∨ q = 55 := by simpa using sf_rv_mem hq
      refine ⟨fun ad => Nat.le_of_ble_eq_true rfl, ?_⟩
      rcases hq with rfl | rfl
      · exact sf_run_ok hs sf_sm_nil 41 0 _ _ σ u h hp
      · exact sf_run_ok hs sf_sm_nil 41 0 _ _ σ u h hp
    · cases h
  · cases h
theorem kX0_askZip (l : Launch) {f o : Nat} {G : Nat → Int32 → Int32 → sf_S → Option (Int32 × sf_S)} (hG : sf_C l sf_layC yX0_ask cX0_ask 3 (some .boolean) (sf_rm f o) (fun av σ => (gX0_askG G av σ).map sf_vI)) : sf_C l sf_layC yX0_askZip cX0_askZip 4 (some .boolean) (sf_rm (f + 9) (o + 350)) (fun av σ => (gX0_askZip G av σ).map sf_vI) :=
  sf_met (tab := tX0_askZip) (J := jX0_askZip G) (fl := sf_fl0) (cl := sf_cl0) (by decide +kernel) ⟨rfl, rfl⟩ sf_RH_Z (by decide +kernel) sf_fl0_ok sf_cl0_ok
    (sf_JO_cons (sf_je_V (n := 3) (cs := [0]) (tv := sf_vI) hG mwX0_ask (by decide +kernel : decode cX0_askZip 7 = .ok (.invokevirtual 35, 3)) wt_635 wt_637 wt_29 (by decide +kernel) (by decide) (by decide) (List.forall_mem_cons.mpr ⟨⟨_, _, rfl⟩, fun _ h => absurd h List.not_mem_nil⟩) (sf_RM_of (by omega) (by omega))) (sf_JO_cons (sf_je_N (n := 2) (cs := [2]) (tv := sf_vI) "StreamFuser" (kX2_secondPart l) mwX2_secondPart (by decide +kernel : decode cX0_askZip 26 = .ok (.invokevirtual 108, 3)) wt_697 wt_514 wt_8 (by decide +kernel) (by decide) (by decide) (List.forall_mem_cons.mpr ⟨⟨_, _, rfl⟩, fun _ h => absurd h List.not_mem_nil⟩) (sf_RM_of (by omega) (by omega))) (sf_JO_cons (sf_je_V (n := 3) (cs := [0]) (tv := sf_vI) hG mwX0_ask (by decide +kernel : decode cX0_askZip 32 = .ok (.invokevirtual 35, 3)) wt_635 wt_637 wt_29 (by decide +kernel) (by decide) (by decide) (List.forall_mem_cons.mpr ⟨⟨_, _, rfl⟩, fun _ h => absurd h List.not_mem_nil⟩) (sf_RM_of (by omega) (by omega))) (sf_JO_cons (sf_je_U (n := 4) (cs := [0]) (tv := sf_vI) (kX10_join l) mwX10_join (by decide +kernel : decode cX0_askZip 48 = .ok (.invokevirtual 112, 3)) wt_702 wt_706 wt_703 rfl (by decide +kernel) (by decide) (by decide) (List.forall_mem_cons.mpr ⟨⟨_, _, _, rfl, wt_705⟩, fun _ h => absurd h List.not_mem_nil⟩) (sf_RM_of (by omega) (by omega))) (sf_JO_nil)))))
    (fun Wt Post hs hm => rX0_askZip hs hm)
-- ===== StreamFuser$Asker.askOpener(II)Z =====
abbrev tX0_askOpener : List (Nat × sf_E) := [(0, (.iconst 0, 1, 0, .int (0), [], [])), (1, (.istore_n 3, 2, 0, .null, [], [])), (2, (.iload_n 3, 3, 0, .null, [], [])), (3, (.ldc 84, 5, 0, .int (1000000), [], [])), (5, (.if_icmp .ge 81, 8, 86, .null, [], [])), (8, (.aload_n 0, 9, 0, .null, [], [])), (9, (.getfield 88, 12, 0, .null, [], [(0, 1), (8, 1)])), (12, (.iload_n 1, 13, 0, .null, [], [])), (13, (.baload, 14, 0, .null, [], [])), (14, (.ifCond .eq 37, 17, 51, .null, [], [])), (17, (.aload_n 0, 18, 0, .null, [], [])), (18, (.iload_n 1, 19, 0, .null, [], [])), (19, (.iconst 1, 20, 0, .int (1), [], [])), (20, (.iadd, 21, 0, .null, [], [])), (21, (.iload_n 2, 22, 0, .null, [], [])), (22, (.iconst 1, 23, 0, .int (1), [], [])), (23, (.iadd, 24, 0, .null, [], [])), (24, (.invokevirtual 35, 27, 0, .null, [], [])), (27, (.ifCond .eq 5, 30, 32, .null, [], [])), (30, (.iconst 1, 31, 0, .int (1), [], [])), (31, (.ireturn, 32, 0, .null, [], [])), (32, (.aload_n 0, 33, 0, .null, [], [])), (33, (.getfield 9, 36, 0, .null, [], [(0, 3), (1, 1), (8, 3)])), (36, (.invokevirtual 104, 39, 0, .null, [], [])), (39, (.ifCond .eq 5, 42, 44, .null, [], [])), (42, (.iconst 0, 43, 0, .int (0), [], [])), (43, (.ireturn, 44, 0, .null, [], [])), (44, (.aload_n 0, 45, 0, .null, [], [])), (45, (.getfield 88, 48, 0, .null, [], [(0, 1), (8, 1)])), (48, (.iload_n 1, 49, 0, .null, [], [])), (49, (.iconst 0, 50, 0, .int (0), [], [])), (50, (.bastore, 51, 0, .null, [], [])), (51, (.aload_n 0, 52, 0, .null, [], [])), (52, (.aload_n 0, 53, 0, .null, [], [])), (53, (.getfield 21, 56, 0, .null, [], [(0, 2), (1, 0), (8, 2)])), (56, (.iload_n 1, 57, 0, .null, [], [])), (57, (.invokevirtual 116, 60, 0, .null, [], [])), (60, (.iload_n 2, 61, 0, .null, [], [])), (61, (.iconst 1, 62, 0, .int (1), [], [])), (62, (.iadd, 63, 0, .null, [], [])), (63, (.invokevirtual 35, 66, 0, .null, [], [])), (66, (.ifCond .ne 5, 69, 71, .null, [], [])), (69, (.iconst 0, 70, 0, .int (0), [], [])), (70, (.ireturn, 71, 0, .null, [], [])), (71, (.aload_n 0, 72, 0, .null, [], [])), (72, (.iload_n 1, 73, 0, .null, [], [])), (73, (.aload_n 0, 74, 0, .null, [], [])), (74, (.getfield 39, 77, 0, .null, [], [(0, 6), (1, 4), (8, 6)])), (77, (.invokevirtual 119, 80, 0, .null, [], [])), (80, (.iinc 3 1, 83, 0, .int (1), [], [])), (83, (.goto (-81), 86, 2, .null, [], [])), (86, (.iconst 0, 87, 0, .int (0), [], [])), (87, (.ireturn, 88, 0, .null, [], []))]
noncomputable abbrev jX0_askOpener (G : Nat → Int32 → Int32 → sf_S → Option (Int32 × sf_S)) : List (Nat × sf_J (Int32 × sf_S)) := [(24, sf_jI sf_layC [0] 3 (gX0_askG G)), (36, sf_jI sf_layC [6] 1 gX6_failed), (57, sf_jI sf_layC [2] 2 gX2_input), (63, sf_jI sf_layC [0] 3 (gX0_askG G)), (77, sf_jV sf_layC [0] 3 gX9_open)]
abbrev wX0_askOpener_51 {ρ : Type} (q : Nat) (k : Int32 → Int32 → Int32 → sf_S → Option ρ) : sf_M ρ := fun L st σ => sf_lda L 0 fun a0 => sf_eq a0 q (sf_ldi L 1 fun x1 => sf_ldi L 2 fun x2 => sf_ldi L 3 fun x3 => sf_nil st (k x1 x2 x3 σ))
theorem wX0_askOpener_51_ok {ρ : Type} {Wt : Nat → sf_L → List Value → sf_S → Prop} {Post : ρ → Prop} (hm : sf_mono Wt) {q : Nat} {k : Int32 → Int32 → Int32 → sf_S → Option ρ} (h : ∀ (x1 : Int32) (x2 : Int32) (x3 : Int32) (σ : sf_S) (u : ρ), k x1 x2 x3 σ = some u → Post u → Wt 51 [(0, some (.ref q)), (1, some (.int x1)), (2, some (.int x2)), (3, some (.int x3))] [] σ) : sf_CK Wt Post 51 (wX0_askOpener_51 q k) := by
  intro L st σ u hf hp
  unfold wX0_askOpener_51 at hf
  have hf0 := hf
  obtain ⟨a0, e0, hf1⟩ := sf_lda_inv hf0
  obtain ⟨rfl, hf2⟩ := sf_eq_inv hf1
  obtain ⟨x1, e1, hf3⟩ := sf_ldi_inv hf2
  obtain ⟨x2, e2, hf4⟩ := sf_ldi_inv hf3
  obtain ⟨x3, e3, hf5⟩ := sf_ldi_inv hf4
  obtain ⟨rfl, hz⟩ := sf_nil_inv hf5
  exact hm _ [(0, some (.ref _)), (1, some (.int x1)), (2, some (.int x2)), (3, some (.int x3))] _ _ _ (sf_le_ok (And.intro e0 (And.intro e1 (And.intro e2 (And.intro e3 trivial))))) (h _ _ _ _ _ hz hp)
abbrev wX0_askOpener_2 {ρ : Type} (q : Nat) (k : Int32 → Int32 → Int32 → sf_S → Option ρ) : sf_M ρ := fun L st σ => sf_lda L 0 fun a0 => sf_eq a0 q (sf_ldi L 1 fun x1 => sf_ldi L 2 fun x2 => sf_ldi L 3 fun x3 => sf_nil st (k x1 x2 x3 σ))
theorem wX0_askOpener_2_ok {ρ : Type} {Wt : Nat → sf_L → List Value → sf_S → Prop} {Post : ρ → Prop} (hm : sf_mono Wt) {q : Nat} {k : Int32 → Int32 → Int32 → sf_S → Option ρ} (h : ∀ (x1 : Int32) (x2 : Int32) (x3 : Int32) (σ : sf_S) (u : ρ), k x1 x2 x3 σ = some u → Post u → Wt 2 [(0, some (.ref q)), (1, some (.int x1)), (2, some (.int x2)), (3, some (.int x3))] [] σ) : sf_CK Wt Post 2 (wX0_askOpener_2 q k) := by
  intro L st σ u hf hp
  unfold wX0_askOpener_2 at hf
  have hf0 := hf
  obtain ⟨a0, e0, hf1⟩ := sf_lda_inv hf0
  obtain ⟨rfl, hf2⟩ := sf_eq_inv hf1
  obtain ⟨x1, e1, hf3⟩ := sf_ldi_inv hf2
  obtain ⟨x2, e2, hf4⟩ := sf_ldi_inv hf3
  obtain ⟨x3, e3, hf5⟩ := sf_ldi_inv hf4
  obtain ⟨rfl, hz⟩ := sf_nil_inv hf5
  exact hm _ [(0, some (.ref _)), (1, some (.int x1)), (2, some (.int x2)), (3, some (.int x3))] _ _ _ (sf_le_ok (And.intro e0 (And.intro e1 (And.intro e2 (And.intro e3 trivial))))) (h _ _ _ _ _ hz hp)
noncomputable def dX0_askOpener_51 (G : Nat → Int32 → Int32 → sf_S → Option (Int32 × sf_S)) (q : Nat) (K2 : Int32 → Int32 → Int32 → sf_S → Option (Int32 × sf_S)) (x1 : Int32) (x2 : Int32) (x3 : Int32) (σ : sf_S) : Option (Int32 × sf_S) :=
  (dX2_input (sf_pl q) x1 σ).bind fun u1 =>
  (G q u1.1 (x2 + (1 : Int32)) u1.2).bind fun u2 =>
  if ¬ u2.1 = 0 then
    (dX9_open q x1 (u2.2 q (sf_vl q)) u2.2).bind fun u3 =>
    K2 x1 x2 (x3 + (1 : Int32)) u3
  else
    some ((0 : Int32), u2.2)
set_option maxRecDepth 100000 in
set_option maxHeartbeats 4000000 in
theorem rX0_askOpener_51 {Wt : Nat → sf_L → List Value → sf_S → Prop} {Post : (Int32 × sf_S) → Prop} {G : Nat → Int32 → Int32 → sf_S → Option (Int32 × sf_S)} (hs : sf_Snd Wt sf_layC sf_hZ (jX0_askOpener G) tX0_askOpener Post) (hm : sf_mono Wt) {q : Nat} (hq : q = 23 ∨ q = 55) {K2 : Int32 → Int32 → Int32 → sf_S → Option (Int32 × sf_S)} (hK2 : sf_CK Wt Post 2 (wX0_askOpener_2 q K2)) : sf_CK Wt Post 51 (wX0_askOpener_51 q (dX0_askOpener_51 G q K2)) := by
  refine wX0_askOpener_51_ok hm ?_
  intro x1 x2 x3 σ u h hp
  rcases hq with rfl | rfl
  · exact sf_run_ok hs (sf_sm_cons hK2 sf_sm_nil) 58 51 _ _ σ u h hp
  · exact sf_run_ok hs (sf_sm_cons hK2 sf_sm_nil) 58 51 _ _ σ u h hp
noncomputable def dX0_askOpener_2 (G : Nat → Int32 → Int32 → sf_S → Option (Int32 × sf_S)) (q : Nat) : Nat → Int32 → Int32 → Int32 → sf_S → Option (Int32 × sf_S)
  | 0 => fun _ _ _ _ => none
  | n + 1 => fun x1 x2 x3 σ =>
    if (1000000 : Int32) ≤ x3 then
      some ((0 : Int32), σ)
    else
      if sf_in x1 40 then
        if (σ (q + 2) x1.toNatClampNeg) = 0 then
          dX0_askOpener_51 G q (dX0_askOpener_2 G q n) x1 x2 x3 σ
        else
          (G q (x1 + (1 : Int32)) (x2 + (1 : Int32)) σ).bind fun u1 =>
          if u1.1 = 0 then
            (dX6_failed (sf_rn q) u1.2).bind fun u2 =>
            if u2.1 = 0 then
              if sf_in x1 40 then
                let s3 := sf_up u2.2 (q + 2) x1.toNatClampNeg (vp_nar .boolean (0 : Int32))
                dX0_askOpener_51 G q (dX0_askOpener_2 G q n) x1 x2 x3 s3
              else
                none
            else
              some ((0 : Int32), u2.2)
          else
            some ((1 : Int32), u1.2)
      else
        none
set_option maxRecDepth 100000 in
set_option maxHeartbeats 4000000 in
theorem rX0_askOpener_2 {Wt : Nat → sf_L → List Value → sf_S → Prop} {Post : (Int32 × sf_S) → Prop} {G : Nat → Int32 → Int32 → sf_S → Option (Int32 × sf_S)} (hs : sf_Snd Wt sf_layC sf_hZ (jX0_askOpener G) tX0_askOpener Post) (hm : sf_mono Wt) {q : Nat} (hq : q = 23 ∨ q = 55) : ∀ n : Nat, sf_CK Wt Post 2 (wX0_askOpener_2 q (dX0_askOpener_2 G q n)) := by
  intro n
  induction n with
  | zero => exact wX0_askOpener_2_ok hm (fun x1 x2 x3 σ u h _ => by simp [dX0_askOpener_2] at h)
  | succ n ih =>
    refine wX0_askOpener_2_ok hm ?_
    intro x1 x2 x3 σ u h hp
    rcases hq with rfl | rfl
    · exact sf_run_ok hs (sf_sm_cons (rX0_askOpener_51 hs hm (Or.inl rfl) ih) sf_sm_nil) 58 2 _ _ σ u h hp
    · exact sf_run_ok hs (sf_sm_cons (rX0_askOpener_51 hs hm (Or.inr rfl) ih) sf_sm_nil) 58 2 _ _ σ u h hp
noncomputable def dX0_askOpener (G : Nat → Int32 → Int32 → sf_S → Option (Int32 × sf_S)) (q : Nat) (x1 : Int32) (x2 : Int32) (σ : sf_S) : Option (Int32 × sf_S) :=
  dX0_askOpener_2 G q sf_F x1 x2 (0 : Int32) σ
noncomputable abbrev gX0_askOpener (G : Nat → Int32 → Int32 → sf_S → Option (Int32 × sf_S)) (av : List Value) (σ : sf_S) : Option (Int32 × sf_S) := match av with
  | [.ref q, .int x1, .int x2] => (match sf_rv [23, 55] q with | true => dX0_askOpener G q x1 x2 σ | false => none)
  | _ => none
set_option maxRecDepth 100000 in
set_option maxHeartbeats 4000000 in
theorem rX0_askOpener {Wt : Nat → sf_L → List Value → sf_S → Prop} {Post : (Int32 × sf_S) → Prop} {G : Nat → Int32 → Int32 → sf_S → Option (Int32 × sf_S)} (hs : sf_Snd Wt sf_layC sf_hZ (jX0_askOpener G) tX0_askOpener Post) (hm : sf_mono Wt) : ∀ av σ u, gX0_askOpener G av σ = some u → Post u → (∀ ad, (lg_sl (av.map (sf_v ad))).length ≤ 4) ∧ Wt 0 (sf_ent 0 av) [] σ := by
  intro av σ u h hp
  unfold gX0_askOpener at h
  split at h
  · rename_i q x1 x2
    split at h
    · rename_i hq
      have hq : q = 23 ∨ q = 55 := by simpa using sf_rv_mem hq
      refine ⟨fun ad => Nat.le_of_ble_eq_true rfl, ?_⟩
      rcases hq with rfl | rfl
      · exact sf_run_ok hs (sf_sm_cons (rX0_askOpener_2 hs hm (Or.inl rfl) sf_F) sf_sm_nil) 58 0 _ _ σ u h hp
      · exact sf_run_ok hs (sf_sm_cons (rX0_askOpener_2 hs hm (Or.inr rfl) sf_F) sf_sm_nil) 58 0 _ _ σ u h hp
    · cases h
  · cases h
theorem kX0_askOpener (l : Launch) {f o : Nat} {G : Nat → Int32 → Int32 → sf_S → Option (Int32 × sf_S)} (hG : sf_C l sf_layC yX0_ask cX0_ask 3 (some .boolean) (sf_rm f o) (fun av σ => (gX0_askG G av σ).map sf_vI)) : sf_C l sf_layC yX0_askOpener cX0_askOpener 4 (some .boolean) (sf_rm (f + 9) (o + 350)) (fun av σ => (gX0_askOpener G av σ).map sf_vI) :=
  sf_met (tab := tX0_askOpener) (J := jX0_askOpener G) (fl := sf_fl0) (cl := sf_cl0) (by decide +kernel) ⟨rfl, rfl⟩ sf_RH_Z (by decide +kernel) sf_fl0_ok sf_cl0_ok
    (sf_JO_cons (sf_je_V (n := 3) (cs := [0]) (tv := sf_vI) hG mwX0_ask (by decide +kernel : decode cX0_askOpener 24 = .ok (.invokevirtual 35, 3)) wt_635 wt_637 wt_29 (by decide +kernel) (by decide) (by decide) (List.forall_mem_cons.mpr ⟨⟨_, _, rfl⟩, fun _ h => absurd h List.not_mem_nil⟩) (sf_RM_of (by omega) (by omega))) (sf_JO_cons (sf_je_N (n := 1) (cs := [6]) (tv := sf_vI) "StreamFuser" (kX6_failed l) mwX6_failed (by decide +kernel : decode cX0_askOpener 36 = .ok (.invokevirtual 104, 3)) wt_693 wt_695 wt_37 (by decide +kernel) (by decide) (by decide) (List.forall_mem_cons.mpr ⟨⟨_, _, rfl⟩, fun _ h => absurd h List.not_mem_nil⟩) (sf_RM_of (by omega) (by omega))) (sf_JO_cons (sf_je_N (n := 2) (cs := [2]) (tv := sf_vI) "StreamFuser" (kX2_input l) mwX2_input (by decide +kernel : decode cX0_askOpener 57 = .ok (.invokevirtual 116, 3)) wt_713 wt_518 wt_9 (by decide +kernel) (by decide) (by decide) (List.forall_mem_cons.mpr ⟨⟨_, _, rfl⟩, fun _ h => absurd h List.not_mem_nil⟩) (sf_RM_of (by omega) (by omega))) (sf_JO_cons (sf_je_V (n := 3) (cs := [0]) (tv := sf_vI) hG mwX0_ask (by decide +kernel : decode cX0_askOpener 63 = .ok (.invokevirtual 35, 3)) wt_635 wt_637 wt_29 (by decide +kernel) (by decide) (by decide) (List.forall_mem_cons.mpr ⟨⟨_, _, rfl⟩, fun _ h => absurd h List.not_mem_nil⟩) (sf_RM_of (by omega) (by omega))) (sf_JO_cons (sf_je_U (n := 3) (cs := [0]) (tv := sf_vV) (kX9_open l) mwX9_open (by decide +kernel : decode cX0_askOpener 77 = .ok (.invokevirtual 119, 3)) wt_714 wt_718 wt_715 rfl (by decide +kernel) (by decide) (by decide) (List.forall_mem_cons.mpr ⟨⟨_, _, _, rfl, wt_717⟩, fun _ h => absurd h List.not_mem_nil⟩) (sf_RM_of (by omega) (by omega))) (sf_JO_nil))))))
    (fun Wt Post hs hm => rX0_askOpener hs hm)
-- ===== StreamFuser$Asker.ask(II)Z =====
abbrev tX0_ask : List (Nat × sf_E) := [(0, (.aload_n 0, 1, 0, .null, [], [])), (1, (.getfield 21, 4, 0, .null, [], [(0, 2), (1, 0), (8, 2)])), (4, (.iload_n 1, 5, 0, .null, [], [])), (5, (.invokevirtual 46, 8, 0, .null, [], [])), (8, (.ifCond .eq 9, 11, 17, .null, [], [])), (11, (.iload_n 2, 12, 0, .null, [], [])), (12, (.bipush 40, 14, 0, .int (40), [], [])), (14, (.if_icmp .le 5, 17, 19, .null, [], [])), (17, (.iconst 0, 18, 0, .int (0), [], [])), (18, (.ireturn, 19, 0, .null, [], [])), (19, (.aload_n 0, 20, 0, .null, [], [])), (20, (.getfield 9, 23, 0, .null, [], [(0, 3), (1, 1), (8, 3)])), (23, (.dup, 24, 0, .null, [], [])), (24, (.getfield 50, 27, 0, .null, [], [(6, 3)])), (27, (.iconst 1, 28, 0, .int (1), [], [])), (28, (.iadd, 29, 0, .null, [], [])), (29, (.putfield 50, 32, 0, .null, [], [(6, 3)])), (32, (.aload_n 0, 33, 0, .null, [], [])), (33, (.getfield 21, 36, 0, .null, [], [(0, 2), (1, 0), (8, 2)])), (36, (.getfield 53, 39, 0, .null, [], [(2, 0)])), (39, (.iload_n 1, 40, 0, .null, [], [])), (40, (.iaload, 41, 0, .null, [], [])), (41, (.lookupswitch 195 #[(37, 115), (42, 115), (43, 115), (47, 115), (63, 146), (99, 174), (100, 167), (107, 146), (108, 115), (116, 160), (119, 153), (120, 188), (122, 181)], 156, 236, .null, [((37), 156), ((42), 156), ((43), 156), ((47), 156), ((63), 187), ((99), 215), ((100), 208), ((107), 187), ((108), 156), ((116), 201), ((119), 194), ((120), 229), ((122), 222)], [])), (156, (.aload_n 0, 157, 0, .null, [], [])), (157, (.iload_n 1, 158, 0, .null, [], [])), (158, (.iconst 1, 159, 0, .int (1), [], [])), (159, (.iadd, 160, 0, .null, [], [])), (160, (.iload_n 2, 161, 0, .null, [], [])), (161, (.iconst 1, 162, 0, .int (1), [], [])), (162, (.iadd, 163, 0, .null, [], [])), (163, (.invokevirtual 35, 166, 0, .null, [], [])), (166, (.ifCond .eq 19, 169, 185, .null, [], [])), (169, (.aload_n 0, 170, 0, .null, [], [])), (170, (.iload_n 1, 171, 0, .null, [], [])), (171, (.aload_n 0, 172, 0, .null, [], [])), (172, (.getfield 39, 175, 0, .null, [], [(0, 6), (1, 4), (8, 6)])), (175, (.invokevirtual 57, 178, 0, .null, [], [])), (178, (.ifCond .eq 7, 181, 185, .null, [], [])), (181, (.iconst 1, 182, 0, .int (1), [], [])), (182, (.goto 4, 185, 186, .null, [], [])), (185, (.iconst 0, 186, 0, .int (0), [], [])), (186, (.ireturn, 187, 0, .null, [], [])), (187, (.aload_n 0, 188, 0, .null, [], [])), (188, (.iload_n 1, 189, 0, .null, [], [])), (189, (.iload_n 2, 190, 0, .null, [], [])), (190, (.invokevirtual 60, 193, 0, .null, [], [])), (193, (.ireturn, 194, 0, .null, [], [])), (194, (.aload_n 0, 195, 0, .null, [], [])), (195, (.iload_n 1, 196, 0, .null, [], [])), (196, (.iload_n 2, 197, 0, .null, [], [])), (197, (.invokevirtual 63, 200, 0, .null, [], [])), (200, (.ireturn, 201, 0, .null, [], [])), (201, (.aload_n 0, 202, 0, .null, [], [])), (202, (.iload_n 1, 203, 0, .null, [], [])), (203, (.iload_n 2, 204, 0, .null, [], [])), (204, (.invokevirtual 66, 207, 0, .null, [], [])), (207, (.ireturn, 208, 0, .null, [], [])), (208, (.aload_n 0, 209, 0, .null, [], [])), (209, (.iload_n 1, 210, 0, .null, [], [])), (210, (.iload_n 2, 211, 0, .null, [], [])), (211, (.invokevirtual 69, 214, 0, .null, [], [])), (214, (.ireturn, 215, 0, .null, [], [])), (215, (.aload_n 0, 216, 0, .null, [], [])), (216, (.iload_n 1, 217, 0, .null, [], [])), (217, (.iload_n 2, 218, 0, .null, [], [])), (218, (.invokevirtual 72, 221, 0, .null, [], [])), (221, (.ireturn, 222, 0, .null, [], [])), (222, (.aload_n 0, 223, 0, .null, [], [])), (223, (.iload_n 1, 224, 0, .null, [], [])), (224, (.iload_n 2, 225, 0, .null, [], [])), (225, (.invokevirtual 75, 228, 0, .null, [], [])), (228, (.ireturn, 229, 0, .null, [], [])), (229, (.aload_n 0, 230, 0, .null, [], [])), (230, (.iload_n 1, 231, 0, .null, [], [])), (231, (.iload_n 2, 232, 0, .null, [], [])), (232, (.invokevirtual 78, 235, 0, .null, [], [])), (235, (.ireturn, 236, 0, .null, [], [])), (236, (.aload_n 0, 237, 0, .null, [], [])), (237, (.iload_n 1, 238, 0, .null, [], [])), (238, (.invokevirtual 81, 241, 0, .null, [], [])), (241, (.ireturn, 242, 0, .null, [], []))]
noncomputable abbrev jX0_ask (G : Nat → Int32 → Int32 → sf_S → Option (Int32 × sf_S)) : List (Nat × sf_J (Int32 × sf_S)) := [(5, sf_jI sf_layC [2] 2 gX2_has), (163, sf_jI sf_layC [0] 3 (gX0_askG G)), (175, sf_jI sf_layC [0] 3 gX10_change), (190, sf_jI sf_layC [0] 3 (gX0_askFilter G)), (197, sf_jI sf_layC [0] 3 (gX0_askWhile G)), (204, sf_jI sf_layC [0] 3 (gX0_askTake G)), (211, sf_jI sf_layC [0] 3 (gX0_askDrop G)), (218, sf_jI sf_layC [0] 3 (gX0_askChain G)), (225, sf_jI sf_layC [0] 3 (gX0_askZip G)), (232, sf_jI sf_layC [0] 3 (gX0_askOpener G)), (238, sf_jI sf_layC [0] 2 gX9_produce)]
noncomputable def dX0_ask (G : Nat → Int32 → Int32 → sf_S → Option (Int32 × sf_S)) (q : Nat) (x1 : Int32) (x2 : Int32) (σ : sf_S) : Option (Int32 × sf_S) :=
  (dX2_has (sf_pl q) x1 σ).bind fun u1 =>
  if u1.1 = 0 then
    some ((0 : Int32), u1.2)
  else
    if x2 ≤ (40 : Int32) then
      let s2 := sf_up u1.2 (sf_rn q) 3 ((u1.2 (sf_rn q) 3) + (1 : Int32))
      if sf_in x1 40 then
        let v3 := (s2 ((sf_pl q) + 1) x1.toNatClampNeg)
        if v3 = (37 : Int32) then
          (G q (x1 + (1 : Int32)) (x2 + (1 : Int32)) s2).bind fun u4 =>
          if u4.1 = 0 then
            some ((0 : Int32), u4.2)
          else
            (dX10_change q x1 (u4.2 q (sf_vl q)) u4.2).bind fun u5 =>
            if u5.1 = 0 then
              some ((0 : Int32), u5.2)
            else
              some ((1 : Int32), u5.2)
        else
        if v3 = (42 : Int32) then
          (G q (x1 + (1 : Int32)) (x2 + (1 : Int32)) s2).bind fun u6 =>
          if u6.1 = 0 then
            some ((0 : Int32), u6.2)
          else
            (dX10_change q x1 (u6.2 q (sf_vl q)) u6.2).bind fun u7 =>
            if u7.1 = 0 then
              some ((0 : Int32), u7.2)
            else
              some ((1 : Int32), u7.2)
        else
        if v3 = (43 : Int32) then
          (G q (x1 + (1 : Int32)) (x2 + (1 : Int32)) s2).bind fun u8 =>
          if u8.1 = 0 then
            some ((0 : Int32), u8.2)
          else
            (dX10_change q x1 (u8.2 q (sf_vl q)) u8.2).bind fun u9 =>
            if u9.1 = 0 then
              some ((0 : Int32), u9.2)
            else
              some ((1 : Int32), u9.2)
        else
        if v3 = (47 : Int32) then
          (G q (x1 + (1 : Int32)) (x2 + (1 : Int32)) s2).bind fun u10 =>
          if u10.1 = 0 then
            some ((0 : Int32), u10.2)
          else
            (dX10_change q x1 (u10.2 q (sf_vl q)) u10.2).bind fun u11 =>
            if u11.1 = 0 then
              some ((0 : Int32), u11.2)
            else
              some ((1 : Int32), u11.2)
        else
        if v3 = (63 : Int32) then
          (dX0_askFilter G q x1 x2 s2).bind fun u12 =>
          if sf_01 u12.1 then some (u12.1, u12.2) else none
        else
        if v3 = (99 : Int32) then
          (dX0_askChain G q x1 x2 s2).bind fun u13 =>
          if sf_01 u13.1 then some (u13.1, u13.2) else none
        else
        if v3 = (100 : Int32) then
          (dX0_askDrop G q x1 x2 s2).bind fun u14 =>
          if sf_01 u14.1 then some (u14.1, u14.2) else none
        else
        if v3 = (107 : Int32) then
          (dX0_askFilter G q x1 x2 s2).bind fun u15 =>
          if sf_01 u15.1 then some (u15.1, u15.2) else none
        else
        if v3 = (108 : Int32) then
          (G q (x1 + (1 : Int32)) (x2 + (1 : Int32)) s2).bind fun u16 =>
          if u16.1 = 0 then
            some ((0 : Int32), u16.2)
          else
            (dX10_change q x1 (u16.2 q (sf_vl q)) u16.2).bind fun u17 =>
            if u17.1 = 0 then
              some ((0 : Int32), u17.2)
            else
              some ((1 : Int32), u17.2)
        else
        if v3 = (116 : Int32) then
          (dX0_askTake G q x1 x2 s2).bind fun u18 =>
          if sf_01 u18.1 then some (u18.1, u18.2) else none
        else
        if v3 = (119 : Int32) then
          (dX0_askWhile G q x1 x2 s2).bind fun u19 =>
          if sf_01 u19.1 then some (u19.1, u19.2) else none
        else
        if v3 = (120 : Int32) then
          (dX0_askOpener G q x1 x2 s2).bind fun u20 =>
          if sf_01 u20.1 then some (u20.1, u20.2) else none
        else
        if v3 = (122 : Int32) then
          (dX0_askZip G q x1 x2 s2).bind fun u21 =>
          if sf_01 u21.1 then some (u21.1, u21.2) else none
        else
          (dX9_produce q x1 s2).bind fun u22 =>
          if sf_01 u22.1 then some (u22.1, u22.2) else none
      else
        none
    else
      some ((0 : Int32), u1.2)
noncomputable abbrev gX0_ask (G : Nat → Int32 → Int32 → sf_S → Option (Int32 × sf_S)) (av : List Value) (σ : sf_S) : Option (Int32 × sf_S) := match av with
  | [.ref q, .int x1, .int x2] => (match sf_rv [23, 55] q with | true => dX0_ask G q x1 x2 σ | false => none)
  | _ => none
set_option maxRecDepth 100000 in
set_option maxHeartbeats 4000000 in
theorem rX0_ask {Wt : Nat → sf_L → List Value → sf_S → Prop} {Post : (Int32 × sf_S) → Prop} {G : Nat → Int32 → Int32 → sf_S → Option (Int32 × sf_S)} (hs : sf_Snd Wt sf_layC sf_hZ (jX0_ask G) tX0_ask Post) (hm : sf_mono Wt) : ∀ av σ u, gX0_ask G av σ = some u → Post u → (∀ ad, (lg_sl (av.map (sf_v ad))).length ≤ 3) ∧ Wt 0 (sf_ent 0 av) [] σ := by
  intro av σ u h hp
  unfold gX0_ask at h
  split at h
  · rename_i q x1 x2
    split at h
    · rename_i hq
      have hq : q = 23 ∨ q = 55 := by simpa using sf_rv_mem hq
      refine ⟨fun ad => Nat.le_of_ble_eq_true rfl, ?_⟩
      rcases hq with rfl | rfl
      · exact sf_run_ok hs sf_sm_nil 86 0 _ _ σ u h hp
      · exact sf_run_ok hs sf_sm_nil 86 0 _ _ σ u h hp
    · cases h
  · cases h
theorem kX0_ask_B (l : Launch) {f o : Nat} {G : Nat → Int32 → Int32 → sf_S → Option (Int32 × sf_S)} (hG : sf_C l sf_layC yX0_ask cX0_ask 3 (some .boolean) (sf_rm f o) (fun av σ => (gX0_askG G av σ).map sf_vI)) : sf_C l sf_layC yX0_ask cX0_ask 3 (some .boolean) (sf_rm (f + 10) (o + 374)) (fun av σ => (gX0_ask G av σ).map sf_vI) :=
  sf_met (tab := tX0_ask) (J := jX0_ask G) (fl := sf_fl0) (cl := sf_cl0) (by decide +kernel) ⟨rfl, rfl⟩ sf_RH_Z (by decide +kernel) sf_fl0_ok sf_cl0_ok
    (sf_JO_cons (sf_je_N (n := 2) (cs := [2]) (tv := sf_vI) "StreamFuser" (kX2_has l) mwX2_has (by decide +kernel : decode cX0_ask 5 = .ok (.invokevirtual 46, 3)) wt_639 wt_470 wt_0 (by decide +kernel) (by decide) (by decide) (List.forall_mem_cons.mpr ⟨⟨_, _, rfl⟩, fun _ h => absurd h List.not_mem_nil⟩) (sf_RM_of (by omega) (by omega))) (sf_JO_cons (sf_je_V (n := 3) (cs := [0]) (tv := sf_vI) hG mwX0_ask (by decide +kernel : decode cX0_ask 163 = .ok (.invokevirtual 35, 3)) wt_635 wt_637 wt_29 (by decide +kernel) (by decide) (by decide) (List.forall_mem_cons.mpr ⟨⟨_, _, rfl⟩, fun _ h => absurd h List.not_mem_nil⟩) (sf_RM_of (by omega) (by omega))) (sf_JO_cons (sf_je_U (n := 3) (cs := [0]) (tv := sf_vI) (kX10_change l) mwX10_change (by decide +kernel : decode cX0_ask 175 = .ok (.invokevirtual 57, 3)) wt_640 wt_644 wt_641 rfl (by decide +kernel) (by decide) (by decide) (List.forall_mem_cons.mpr ⟨⟨_, _, _, rfl, wt_643⟩, fun _ h => absurd h List.not_mem_nil⟩) (sf_RM_of (by omega) (by omega))) (sf_JO_cons (sf_je_V (n := 3) (cs := [0]) (tv := sf_vI) (kX0_askFilter l hG) mwX0_askFilter (by decide +kernel : decode cX0_ask 190 = .ok (.invokevirtual 60, 3)) wt_665 wt_667 wt_32 (by decide +kernel) (by decide) (by decide) (List.forall_mem_cons.mpr ⟨⟨_, _, rfl⟩, fun _ h => absurd h List.not_mem_nil⟩) (sf_RM_of (by omega) (by omega))) (sf_JO_cons (sf_je_V (n := 3) (cs := [0]) (tv := sf_vI) (kX0_askWhile l hG) mwX0_askWhile (by decide +kernel : decode cX0_ask 197 = .ok (.invokevirtual 63, 3)) wt_676 wt_678 wt_33 (by decide +kernel) (by decide) (by decide) (List.forall_mem_cons.mpr ⟨⟨_, _, rfl⟩, fun _ h => absurd h List.not_mem_nil⟩) (sf_RM_of (by omega) (by omega))) (sf_JO_cons (sf_je_V (n := 3) (cs := [0]) (tv := sf_vI) (kX0_askTake l hG) mwX0_askTake (by decide +kernel : decode cX0_ask 204 = .ok (.invokevirtual 66, 3)) wt_680 wt_682 wt_34 (by decide +kernel) (by decide) (by decide) (List.forall_mem_cons.mpr ⟨⟨_, _, rfl⟩, fun _ h => absurd h List.not_mem_nil⟩) (sf_RM_of (by omega) (by omega))) (sf_JO_cons (sf_je_V (n := 3) (cs := [0]) (tv := sf_vI) (kX0_askDrop l hG) mwX0_askDrop (by decide +kernel : decode cX0_ask 211 = .ok (.invokevirtual 69, 3)) wt_684 wt_686 wt_35 (by decide +kernel) (by decide) (by decide) (List.forall_mem_cons.mpr ⟨⟨_, _, rfl⟩, fun _ h => absurd h List.not_mem_nil⟩) (sf_RM_of (by omega) (by omega))) (sf_JO_cons (sf_je_V (n := 3) (cs := [0]) (tv := sf_vI) (kX0_askChain l hG) mwX0_askChain (by decide +kernel : decode cX0_ask 218 = .ok (.invokevirtual 72, 3)) wt_689 wt_691 wt_36 (by decide +kernel) (by decide) (by decide) (List.forall_mem_cons.mpr ⟨⟨_, _, rfl⟩, fun _ h => absurd h List.not_mem_nil⟩) (sf_RM_of (by omega) (by omega))) (sf_JO_cons (sf_je_V (n := 3) (cs := [0]) (tv := sf_vI) (kX0_askZip l hG) mwX0_askZip (by decide +kernel : decode cX0_ask 225 = .ok (.invokevirtual 75, 3)) wt_698 wt_700 wt_38 (by decide +kernel) (by decide) (by decide) (List.forall_mem_cons.mpr ⟨⟨_, _, rfl⟩, fun _ h => absurd h List.not_mem_nil⟩) (sf_RM_of (by omega) (by omega))) (sf_JO_cons (sf_je_V (n := 3) (cs := [0]) (tv := sf_vI) (kX0_askOpener l hG) mwX0_askOpener (by decide +kernel : decode cX0_ask 232 = .ok (.invokevirtual 78, 3)) wt_709 wt_711 wt_39 (by decide +kernel) (by decide) (by decide) (List.forall_mem_cons.mpr ⟨⟨_, _, rfl⟩, fun _ h => absurd h List.not_mem_nil⟩) (sf_RM_of (by omega) (by omega))) (sf_JO_cons (sf_je_U (n := 2) (cs := [0]) (tv := sf_vI) (kX9_produce l) mwX9_produce (by decide +kernel : decode cX0_ask 238 = .ok (.invokevirtual 81, 3)) wt_723 wt_727 wt_724 rfl (by decide +kernel) (by decide) (by decide) (List.forall_mem_cons.mpr ⟨⟨_, _, _, rfl, wt_726⟩, fun _ h => absurd h List.not_mem_nil⟩) (sf_RM_of (by omega) (by omega))) (sf_JO_nil))))))))))))
    (fun Wt Post hs hm => rX0_ask hs hm)
noncomputable def dX0_ask_R : Nat → Nat → Int32 → Int32 → sf_S → Option (Int32 × sf_S)
  | 0 => fun _ _ _ _ => none
  | n + 1 => fun q x1 x2 σ => dX0_ask (dX0_ask_R n) q x1 x2 σ
theorem kX0_ask_R (l : Launch) : ∀ n : Nat, sf_C l sf_layC yX0_ask cX0_ask 3 (some .boolean) (sf_rm (20 + 10 * n) (1000 + 374 * n)) (fun av σ => (gX0_askG (dX0_ask_R n) av σ).map sf_vI)
  | 0 => sf_C_none fun av σ => by
    unfold gX0_askG
    split
    · split <;> rfl
    · rfl
  | n + 1 => by
    have := kX0_ask_B l (kX0_ask_R l n)
    rw [show 20 + 10 * n + 10 = 20 + 10 * (n + 1) by omega, show 1000 + 374 * n + 374 = 1000 + 374 * (n + 1) by omega] at this
    exact this
noncomputable abbrev gX0_ask_Z : List Value → sf_S → Option (Int32 × sf_S) := gX0_askG (dX0_ask_R 42)
theorem kX0_ask_Z (l : Launch) : sf_C l sf_layC yX0_ask cX0_ask 3 (some .boolean) (sf_rm 440 16708) (fun av σ => (gX0_ask_Z av σ).map sf_vI) := kX0_ask_R l 42
-- ===== StreamFuser$Asker.play(I)V =====
abbrev tX0_play : List (Nat × sf_E) := [(0, (.aload_n 0, 1, 0, .null, [], [])), (1, (.getfield 9, 4, 0, .null, [], [(0, 3), (1, 1), (8, 3)])), (4, (.invokevirtual 15, 7, 0, .null, [], [])), (7, (.aload_n 0, 8, 0, .null, [], [])), (8, (.iconst 0, 9, 0, .int (0), [], [])), (9, (.aload_n 0, 10, 0, .null, [], [])), (10, (.getfield 21, 13, 0, .null, [], [(0, 2), (1, 0), (8, 2)])), (13, (.getfield 25, 16, 0, .null, [], [(2, 4)])), (16, (.invokevirtual 31, 19, 0, .null, [], [])), (19, (.iconst 0, 20, 0, .int (0), [], [])), (20, (.istore_n 2, 21, 0, .null, [], [])), (21, (.iload_n 2, 22, 0, .null, [], [])), (22, (.iload_n 1, 23, 0, .null, [], [])), (23, (.if_icmp .ge 29, 26, 52, .null, [], [])), (26, (.aload_n 0, 27, 0, .null, [], [])), (27, (.iconst 0, 28, 0, .int (0), [], [])), (28, (.iconst 0, 29, 0, .int (0), [], [])), (29, (.invokevirtual 35, 32, 0, .null, [], [])), (32, (.ifCond .eq 20, 35, 52, .null, [], [])), (35, (.aload_n 0, 36, 0, .null, [], [])), (36, (.getfield 9, 39, 0, .null, [], [(0, 3), (1, 1), (8, 3)])), (39, (.aload_n 0, 40, 0, .null, [], [])), (40, (.getfield 39, 43, 0, .null, [], [(0, 6), (1, 4), (8, 6)])), (43, (.invokevirtual 42, 46, 0, .null, [], [])), (46, (.iinc 2 1, 49, 0, .int (1), [], [])), (49, (.goto (-28), 52, 21, .null, [], [])), (52, (.return_, 53, 0, .null, [], []))]
noncomputable abbrev jX0_play : List (Nat × sf_J sf_S) := [(4, sf_jV sf_layC [6] 1 gX6_begin), (16, sf_jV sf_layC [0] 3 gX9_restart), (29, sf_jI sf_layC [0] 3 gX0_ask_Z), (43, sf_jV sf_layC [6] 2 gX6_give)]
abbrev wX0_play_21 {ρ : Type} (q : Nat) (k : Int32 → Int32 → sf_S → Option ρ) : sf_M ρ := fun L st σ => sf_lda L 0 fun a0 => sf_eq a0 q (sf_ldi L 1 fun x1 => sf_ldi L 2 fun x2 => sf_nil st (k x1 x2 σ))
theorem wX0_play_21_ok {ρ : Type} {Wt : Nat → sf_L → List Value → sf_S → Prop} {Post : ρ → Prop} (hm : sf_mono Wt) {q : Nat} {k : Int32 → Int32 → sf_S → Option ρ} (h : ∀ (x1 : Int32) (x2 : Int32) (σ : sf_S) (u : ρ), k x1 x2 σ = some u → Post u → Wt 21 [(0, some (.ref q)), (1, some (.int x1)), (2, some (.int x2))] [] σ) : sf_CK Wt Post 21 (wX0_play_21 q k) := by
  intro L st σ u hf hp
  unfold wX0_play_21 at hf
  have hf0 := hf
  obtain ⟨a0, e0, hf1⟩ := sf_lda_inv hf0
  obtain ⟨rfl, hf2⟩ := sf_eq_inv hf1
  obtain ⟨x1, e1, hf3⟩ := sf_ldi_inv hf2
  obtain ⟨x2, e2, hf4⟩ := sf_ldi_inv hf3
  obtain ⟨rfl, hz⟩ := sf_nil_inv hf4
  exact hm _ [(0, some (.ref _)), (1, some (.int x1)), (2, some (.int x2))] _ _ _ (sf_le_ok (And.intro e0 (And.intro e1 (And.intro e2 trivial)))) (h _ _ _ _ hz hp)
noncomputable def dX0_play_21 (q : Nat) : Nat → Int32 → Int32 → sf_S → Option sf_S
  | 0 => fun _ _ _ => none
  | n + 1 => fun x1 x2 σ =>
    if x1 ≤ x2 then
      some σ
    else
      (dX0_ask_R 42 q (0 : Int32) (0 : Int32) σ).bind fun u1 =>
      if u1.1 = 0 then
        some u1.2
      else
        (dX6_give (sf_rn q) (u1.2 q (sf_vl q)) u1.2).bind fun u2 =>
        dX0_play_21 q n x1 (x2 + (1 : Int32)) u2
set_option maxRecDepth 100000 in
set_option maxHeartbeats 4000000 in
theorem rX0_play_21 {Wt : Nat → sf_L → List Value → sf_S → Prop} {Post : sf_S → Prop} (hs : sf_Snd Wt sf_layC sf_hV jX0_play tX0_play Post) (hm : sf_mono Wt) {q : Nat} (hq : q = 23 ∨ q = 55) : ∀ n : Nat, sf_CK Wt Post 21 (wX0_play_21 q (dX0_play_21 q n)) := by
  intro n
  induction n with
  | zero => exact wX0_play_21_ok hm (fun x1 x2 σ u h _ => by simp [dX0_play_21] at h)
  | succ n ih =>
    refine wX0_play_21_ok hm ?_
    intro x1 x2 σ u h hp
    rcases hq with rfl | rfl
    · exact sf_run_ok hs (sf_sm_cons ih sf_sm_nil) 32 21 _ _ σ u h hp
    · exact sf_run_ok hs (sf_sm_cons ih sf_sm_nil) 32 21 _ _ σ u h hp
noncomputable def dX0_play (q : Nat) (x1 : Int32) (σ : sf_S) : Option sf_S :=
  (dX6_begin (sf_rn q) σ).bind fun u1 =>
  (dX9_restart q (0 : Int32) (u1 (sf_pl q) 4) u1).bind fun u2 =>
  dX0_play_21 q sf_F x1 (0 : Int32) u2
noncomputable abbrev gX0_play (av : List Value) (σ : sf_S) : Option sf_S := match av with
  | [.ref q, .int x1] => (match sf_rv [23, 55] q with | true => dX0_play q x1 σ | false => none)
  | _ => none
set_option maxRecDepth 100000 in
set_option maxHeartbeats 4000000 in
theorem rX0_play {Wt : Nat → sf_L → List Value → sf_S → Prop} {Post : sf_S → Prop} (hs : sf_Snd Wt sf_layC sf_hV jX0_play tX0_play Post) (hm : sf_mono Wt) : ∀ av σ u, gX0_play av σ = some u → Post u → (∀ ad, (lg_sl (av.map (sf_v ad))).length ≤ 3) ∧ Wt 0 (sf_ent 0 av) [] σ := by
  intro av σ u h hp
  unfold gX0_play at h
  split at h
  · rename_i q x1
    split at h
    · rename_i hq
      have hq : q = 23 ∨ q = 55 := by simpa using sf_rv_mem hq
      refine ⟨fun ad => Nat.le_of_ble_eq_true rfl, ?_⟩
      rcases hq with rfl | rfl
      · exact sf_run_ok hs (sf_sm_cons (rX0_play_21 hs hm (Or.inl rfl) sf_F) sf_sm_nil) 32 0 _ _ σ u h hp
      · exact sf_run_ok hs (sf_sm_cons (rX0_play_21 hs hm (Or.inr rfl) sf_F) sf_sm_nil) 32 0 _ _ σ u h hp
    · cases h
  · cases h
theorem kX0_play (l : Launch) : sf_C l sf_layC yX0_play cX0_play 3 none (sf_rm 441 16730) (fun av σ => (gX0_play av σ).map sf_vV) :=
  sf_met (tab := tX0_play) (J := jX0_play) (fl := sf_fl0) (cl := sf_cl0) (by decide +kernel) ⟨rfl, rfl⟩ sf_RH_V (by decide +kernel) sf_fl0_ok sf_cl0_ok
    (sf_JO_cons (sf_je_N (n := 1) (cs := [6]) (tv := sf_vV) "StreamFuser" (kX6_begin l) mwX6_begin (by decide +kernel : decode cX0_play 4 = .ok (.invokevirtual 15, 3)) wt_624 wt_626 wt_28 (by decide +kernel) (by decide) (by decide) (List.forall_mem_cons.mpr ⟨⟨_, _, rfl⟩, fun _ h => absurd h List.not_mem_nil⟩) (sf_RM_of (by omega) (by omega))) (sf_JO_cons (sf_je_U (n := 3) (cs := [0]) (tv := sf_vV) (kX9_restart l) mwX9_restart (by decide +kernel : decode cX0_play 16 = .ok (.invokevirtual 31, 3)) wt_628 wt_632 wt_629 rfl (by decide +kernel) (by decide) (by decide) (List.forall_mem_cons.mpr ⟨⟨_, _, _, rfl, wt_631⟩, fun _ h => absurd h List.not_mem_nil⟩) (sf_RM_of (by omega) (by omega))) (sf_JO_cons (sf_je_V (n := 3) (cs := [0]) (tv := sf_vI) (kX0_ask_Z l) mwX0_ask (by decide +kernel : decode cX0_play 29 = .ok (.invokevirtual 35, 3)) wt_635 wt_637 wt_29 (by decide +kernel) (by decide) (by decide) (List.forall_mem_cons.mpr ⟨⟨_, _, rfl⟩, fun _ h => absurd h List.not_mem_nil⟩) (sf_RM_of (by omega) (by omega))) (sf_JO_cons (sf_je_N (n := 2) (cs := [6]) (tv := sf_vV) "StreamFuser" (kX6_give l) mwX6_give (by decide +kernel : decode cX0_play 43 = .ok (.invokevirtual 42, 3)) wt_779 wt_781 wt_43 (by decide +kernel) (by decide) (by decide) (List.forall_mem_cons.mpr ⟨⟨_, _, rfl⟩, fun _ h => absurd h List.not_mem_nil⟩) (sf_RM_of (by omega) (by omega))) (sf_JO_nil)))))
    (fun Wt Post hs hm => rX0_play hs hm)
