/-! from the law's entry to its loop -/
theorem sl_len : sf_DC.length = 59 := by decide +kernel
theorem sl_b1 : sd_b [] [] sf_DC = true := by decide +kernel
theorem sl_b2 : sd_b [] [.ref 59, .ref 59] (sf_DC ++ sd_startM) = true := by decide +kernel
theorem sl_dis0 : (List.range sf_layC.length).all (fun i => (List.range sf_layM.length).all fun j => decide (sd_pmC.getD i 0 ≠ sd_pmM2.getD j 0)) = true := by decide +kernel
theorem sl_dis {i j : Nat} (hi : i < sf_layC.length) (hj : j < sf_layM.length) : sd_pmC.getD i 0 ≠ sd_pmM2.getD j 0 := by
  have h := List.all_eq_true.mp (List.all_eq_true.mp sl_dis0 i (List.mem_range.mpr hi)) j (List.mem_range.mpr hj)
  exact of_decide_eq_true h
theorem sl_LV0 {ls : Array Slot} {lv : List (Nat × Value)} {as : Nat → Nat} (h : lv_has ls 4 lv) : sf_LV ls 4 as [] := ⟨h.1, h.2.1, fun i v h => by simp [sf_get] at h⟩
/-- the whole walk of the law, but for its end, for any relation of the states that the calls keep -/
theorem sl_start {p : Program} {e : Env} {s : State} {m : MethodId} {below : List Frame} {meth : Method} {c : Code} {Q : State → Prop} (l : Launch) {b L : Nat} {xs : Nat → Int32} (hL : L ≤ 3072) (hx : p.tables.exec = Jvm.exec) (hb : c.code = code) (hml : c.maxLocals = 4) (hown : s.vm.findClass "StreamFuserLaw" = some m.cls) (hts : ∀ w ∈ lw_tbl, w.before #[Value.ref b] s = true) (hX : va_X b L xs s s.heap) (hbl : b < s.heap.size)
    {Inv : Nat → sf_S → sf_S → Prop} (hI : sl_Good Inv) (hI0 : Inv 0 sf_t0C sf_t0M) (hret : ∀ (H : Heap) (locs : List Loc) (ls : Array Slot), va_S (fun q => s.heap.size ≤ q) s.heap H locs → W p l e room_1 s m #[Value.ref b] below meth c H locs 98 10101 Q (F0 m 780 ls [.int 1])) : W p l e room_1 s m #[Value.ref b] below meth c s.heap [] 0 0 Q (entryFrame m ([Value.ref b] : List Value).toArray 4) := by
  obtain ⟨D, cy, hK⟩ := sf_knows hts
  have h0 : sd_At p s m #[Value.ref b] c "StreamFuserLaw" code 4 D cy (fun q => s.heap.size ≤ q) := ⟨hx, hb, hml, hown, sf_T_hold hts, hK, fun q h => h⟩
  have hN := sf_N_hold hts
  have hS0 : sl_At p s m #[Value.ref b] c D cy (fun q => s.heap.size ≤ q) b L xs := ⟨h0, hN, hX, hbl, Nat.not_le.mpr hbl, hL⟩
  have hent := lv_entry [Value.ref b] (n := 4) (show (1 : Nat) ≤ 4 by decide)
  rw [lg_entry_eq]
  refine sf_open1 (Pl := fun ls => lv_has ls 4 [(0, .ref b)]) (as0 := fun _ => 0) h0 hN ?_ (fun _ => 0) s.heap [] _ hent (Nat.zero_le _) (fun k hk => absurd hk (Nat.not_lt_zero k)) (sl_LV0 hent) (fun k q hk => (by cases hk)) ⟨fun i j p q hi => (by cases hi), fun k q hk => (by cases hk)⟩ va_S.rf
  intro as H locs ls hp _ _ _ hP hD hS
  refine lv_astore_n hx hb (by decide +kernel : decode code 7 = .ok (.astore_n 1, 1)) (i := 1) rfl hp (by decide) (lv' := [(1, .ref (as 0)), (0, .ref b)]) rfl (fun ls' hl' => ?_)
  refine sf_open2 (Pl := fun ls => lv_has ls 4 [(1, .ref (as 0)), (0, .ref b)]) (n0 := 1) (as0 := as) sl_len sl_b1 sl_b2 sf_jointRun h0 hN ?_ as H locs ls' hl' (by rw [sl_len]; decide) (fun _ _ => rfl) (sl_LV0 hl') hP hD hS
  intro as2 H2 locs2 ls2 hp2 _ has2 _ hP2 hD2 hS2
  have ha0 : as2 0 = as 0 := has2 0 (by decide)
  obtain ⟨c1, c2, c3⟩ := sd_to_sf (pm := sd_pmC) (by decide +kernel) (sd_nd (by decide +kernel)) sf_jointC hP2 hD2
  obtain ⟨m1, m2, m3⟩ := sd_to_sf (pm := sd_pmM2) (by decide +kernel) (sd_nd (by decide +kernel)) sf_jointM hP2 hD2
  have hA : sl_Ads (fun q => s.heap.size ≤ q) (sd_ad sd_pmC as2) (sd_ad sd_pmM2 as2) := ⟨c2, m2, c3, m3, fun i j hi hj he => by
    obtain ⟨y1, z1, -⟩ := sf_jointC i _ (List.getElem?_eq_getElem hi)
    obtain ⟨y2, z2, -⟩ := sf_jointM j _ (List.getElem?_eq_getElem hj)
    exact sl_dis hi hj (hD2.1 _ _ _ _ (sd_wd_at (as := as2) (cy := cy) z1) (sd_wd_at (as := as2) (cy := cy) z2) he)⟩
  refine lv_astore_n hx hb (by decide +kernel : decode code 15 = .ok (.astore_n 2, 1)) (i := 2) rfl hp2 (by decide) (lv' := [(2, .ref (as2 59)), (1, .ref (as 0)), (0, .ref b)]) rfl (fun ls3 hl3 => ?_)
  refine lv_iconst hx hb (v := 0) (by decide +kernel : decode code 16 = .ok (.iconst 0, 1)) rfl ?_
  refine lv_istore_n hx hb (by decide +kernel : decode code 17 = .ok (.istore_n 3, 1)) (i := 3) rfl hl3 (by decide) (lv' := [(3, .int 0), (2, .ref (as2 59)), (1, .ref (as 0)), (0, .ref b)]) rfl (fun ls4 hl4 => ?_)
  have hgo := sl_loop (p := p) (l := l) (e := e) (below := below) (meth := meth) (Q := Q) hS0 hA hI hret (L + 1) 0 sf_t0C sf_t0M (by omega) (by omega) hI0
  refine hgo H2 locs2 ls4 ?_ ⟨c1, m1⟩ hS2
  refine ⟨hl4.1, hl4.2.1, fun q hq => hl4.2.2 q ?_⟩
  have e1 : sd_ad sd_pmC as2 0 = as 0 := ha0
  have e2 : sd_ad sd_pmM2 as2 0 = as2 59 := rfl
  rw [e1, e2] at hq
  simp only [List.mem_cons, List.not_mem_nil, or_false] at hq
  rcases hq with rfl | rfl | rfl | rfl <;> simp
