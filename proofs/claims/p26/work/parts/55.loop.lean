/-! the law's loop: three turns -/
theorem sw_hns : tL_law.all (fun q => so_oki q.2.1) = true := by decide +kernel
theorem sw_chk : sf_chk code 20 [] [] tL_law = true := by decide +kernel
theorem sl_LV0 {ls : Array Slot} {lv : List (Nat × Value)} {as : Nat → Nat} (h : lv_has ls 20 lv) : sf_LV ls 20 as [] := ⟨h.1, h.2.1, fun i v h => by simp [sf_get] at h⟩
theorem sw_loop {p : Program} {e : Env} {s : State} {m : MethodId} {below : List Frame} {meth : Method} {c : Code} {Q : State → Prop} (l : Launch) {b L : Nat} {xs : Nat → Int32} (hL : L ≤ 260) (hx : p.tables.exec = Jvm.exec) (hb : c.code = code) (hml : c.maxLocals = 20) (hown : s.vm.findClass "StreamFuserLaw" = some m.cls) (hT : ∀ w ∈ sf_T, w.before #[Value.ref b] s = true) (hN : ∀ w ∈ sf_N, va_Nw w s) (hX : va_X b L xs s s.heap) (hbl : b < s.heap.size) {D : va_G} {cy : Nat → ClassId} (hK : va_K D vwCl (sf_ty cy) s)
    (hret : ∀ (H : Heap) (locs : List Loc) (ls : Array Slot), va_S (fun q => s.heap.size ≤ q) s.heap H locs → W p l e room_1 s m #[Value.ref b] below meth c H locs 354 28206 Q (F0 m 746 ls [.int 1])) : ∀ (r t : Nat), t + r = 3 → ∀ (H : Heap) (locs : List Loc) (ls : Array Slot), lv_has ls 20 [(1, .int (nI t)), (0, .ref b)] → va_S (fun q => s.heap.size ≤ q) s.heap H locs → W p l e room_1 s m #[Value.ref b] below meth c H locs (118 * t) (9402 * t) Q (F0 m 2 ls []) := by
  intro r
  induction r with
  | zero =>
    intro t ht H locs ls hl hS
    have ht : t = 3 := by omega
    subst ht
    refine lv_iload_n hx hb (by decide +kernel : decode code 2 = .ok (.iload_n 1, 1)) rfl (lv_at hl 0 rfl) ?_
    refine lv_iconst hx hb (v := 3) (by decide +kernel : decode code 3 = .ok (.iconst 3, 1)) rfl ?_
    refine lv_icmp_ge hx hb (by decide +kernel : decode code 4 = .ok (.if_icmp .ge 741, 3)) (by decide : ((4 : Nat) : Int) + 741 = ((745 : Nat) : Int)) (fun _ => ?_) (fun h => ?_)
    · exact lv_iconst hx hb (v := 1) (by decide +kernel : decode code 745 = .ok (.iconst 1, 1)) rfl (hret H locs ls hS)
    · exact absurd (show (3 : Int32) ≤ nI 3 from by decide +kernel) h
  | succ r ih =>
    intro t ht H locs ls hl hS
    have ht2 : t ≤ 2 := by omega
    refine lv_iload_n hx hb (by decide +kernel : decode code 2 = .ok (.iload_n 1, 1)) rfl (lv_at hl 0 rfl) ?_
    refine lv_iconst hx hb (v := 3) (by decide +kernel : decode code 3 = .ok (.iconst 3, 1)) rfl ?_
    refine lv_icmp_ge hx hb (by decide +kernel : decode code 4 = .ok (.if_icmp .ge 741, 3)) (by decide : ((4 : Nat) : Int) + 741 = ((745 : Nat) : Int)) (fun h => ?_) (fun _ => ?_)
    · rw [show (3 : Int32) = nI 3 from by decide +kernel, nI_leI (by omega) (by omega)] at h
      omega
    have h0 : sd_At p s m #[Value.ref b] c "StreamFuserLaw" code 20 D cy (fun q => s.heap.size ≤ q) := ⟨hx, hb, hml, hown, hT, hK, fun q h => h⟩
    refine sw_openA (Pl := fun ls => lv_has ls 20 [(1, .int (nI t)), (0, .ref b)]) (as0 := fun _ => 0) (n0 := 0) (by omega) (by omega) h0 hN ?_ (fun _ => 0) H locs ls hl (Nat.zero_le _) (fun k hk => absurd hk (Nat.not_lt_zero k)) (sl_LV0 hl) (fun k q hk => (by cases hk)) ⟨fun i j p q hi => (by cases hi), fun k q hk => (by cases hk)⟩ hS
    intro as H1 locs1 ls1 hp1 _ _ _ hP1 hD1 hS1
    refine lv_astore_n hx hb (by decide +kernel : decode code 14 = .ok (.astore_n 2, 1)) (i := 2) rfl hp1 (by decide) (lv' := [(2, .ref (as 0)), (1, .int (nI t)), (0, .ref b)]) rfl (fun ls2 hl2 => ?_)
    refine sw_openB (Pl := fun ls => lv_has ls 20 [(2, .ref (as 0)), (1, .int (nI t)), (0, .ref b)]) (n0 := 1) (as0 := as) (by omega) (by omega) sl_len sl_b1 sl_b2 sf_jointRun h0 hN ?_ as H1 locs1 ls2 hl2 (by rw [sl_len]; decide) (fun _ _ => rfl) (sl_LV0 hl2) hP1 hD1 hS1
    intro as2 H2 locs2 ls3 hp3 _ has2 _ hP2 hD2 hS2
    have ha0 : as2 0 = as 0 := has2 0 (by decide)
    refine lv_astore_n hx hb (by decide +kernel : decode code 22 = .ok (.astore_n 3, 1)) (i := 3) rfl hp3 (by decide) (lv' := [(3, .ref (as2 59)), (2, .ref (as 0)), (1, .int (nI t)), (0, .ref b)]) rfl (fun ls4 hl4 => ?_)
    obtain ⟨c1, c2, c3⟩ := sd_to_sf (lay := sd_lay2) (pm := sd_pm2) (by decide +kernel) (sd_nd (by decide +kernel)) sf_jointW hP2 hD2
    have hX2 : va_X b L xs s H2 := hX.kept (hS2.2.1 b hbl (Nat.not_le.mpr hbl))
    have hWP := sw_P c1 hX2
    have hinj : sf_inj (sf_layW L) (sw_ad as2 b) := sw_inj c2 c3 hbl
    have had : ∀ k, k < 118 → sw_ad as2 b k = sd_ad sd_pm2 as2 k := fun k hk => if_pos hk
    have hb118 : sw_ad as2 b 118 = b := if_neg (by omega)
    have h0' : so_At p s m #[Value.ref b] c RL code 20 (sf_layW L) D cy (sw_ad as2 b) (fun q => s.heap.size ≤ q) sf_T := ⟨hx, hb, hml, hown, hT, hK, hinj, fun k hk => by
      rw [sf_layW_len] at hk
      rw [had k (by omega)]
      exact c3 k (by rw [sd_lay2_len]; omega), fun q h => h⟩
    have hsnd := so_step_ok (l := l) (e0 := e) (R := room_1) (below := below) (meth := meth) (Q := Q) (k1 := 118 * t + 1 + 58 + 1 + 58) (k2 := 9402 * t + 14 + 4687 + 14 + 4687) (rh := fun _ _ => none) (J := jL_law L) (tab := tL_law) (Post := fun u : Int32 × sf_S => u.1 = nI t) h0' sw_hns sw_chk (fun q hq => absurd hq List.not_mem_nil) (fun q hq => absurd hq List.not_mem_nil)
      (fun pc j L' st σ2 K r hj hjj hk => joL_law l L (pc, j) (sf_as_mem hj) p e s m _ below meth c _ _ _ (show 118 * t + 1 + 58 + 1 + 58 ≤ 600000 by omega) (show 9402 * t + 14 + 4687 + 14 + 4687 ≤ 7302250 by omega) D cy _ _ h0' hN L' st σ2 K r hjj hk)
      (fun v σ r pc L' ins h => by cases h)
    have hmono : sf_mono (so_W p l e room_1 s m #[Value.ref b] below meth c Q (118 * t + 1 + 58 + 1 + 58) (9402 * t + 14 + 4687 + 14 + 4687) 20 (sf_layW L) D cy (sw_ad as2 b) (fun q => s.heap.size ≤ q)) := fun pc L0 L st σ2 hm k => k.mono hm
    obtain ⟨σ', hlaw⟩ := sw_law hL ht2 xs
    refine rL_law hsnd hmono (wL_law_739_ok hmono (fun x1 σ u hu hpost => ?_)) (nI t) (sw_σ xs) (nI t, σ') hlaw rfl H2 locs2 ls4 ⟨hl4.1, hl4.2.1, fun i v hg => ?_⟩ hWP hS2
    · cases hu
      have hx1 : x1 = nI t := hpost
      subst hx1
      intro H3 locs3 ls5 hl5 hP5 hS5
      have e0 : ls5[0]? = some (.val (.ref b)) := by
        have := hl5.2.2 0 (.ref 118) rfl
        rw [show sf_v (sw_ad as2 b) (.ref 118) = .ref (sw_ad as2 b 118) from rfl, hb118] at this
        exact this
      have e1 : ls5[1]? = some (.val (.int (nI t))) := hl5.2.2 1 (.int (nI t)) rfl
      have hlv : lv_has ls5 20 [(1, .int (nI t)), (0, .ref b)] := ⟨hl5.1, hl5.2.1, fun q hq => by
        simp only [List.mem_cons, List.not_mem_nil, or_false] at hq
        rcases hq with rfl | rfl
        · exact e1
        · exact e0⟩
      refine lv_iinc (k := 0) hx hb (by decide +kernel : decode code 739 = .ok (.iinc 1 1, 3)) hlv rfl (v := nI (t + 1)) (lv' := [(1, .int (nI (t + 1))), (0, .ref b)]) (nI_1 t) (by decide) rfl (fun ls' hl' => ?_)
      refine lv_goto hx hb (by decide +kernel : decode code 742 = .ok (.goto (-740), 3)) (by decide : ((742 : Nat) : Int) + (-740) = ((2 : Nat) : Int)) ?_
      have hi := ih (t + 1) (by omega) H3 locs3 ls' hl' hS5
      rw [show 118 * (t + 1) = 118 * t + 1 + 58 + 1 + 58 by omega, show 9402 * (t + 1) = 9402 * t + 14 + 4687 + 14 + 4687 by omega] at hi
      exact hi
    · have ad0 : sw_ad as2 b 0 = as 0 := (had 0 (by omega)).trans ha0
      have ad59 : sw_ad as2 b 59 = as2 59 := had 59 (by omega)
      rcases sf_get_put hg with ⟨rfl, e1⟩ | ⟨-, hg, -⟩
      · cases e1
        show ls4[0]? = some (.val (.ref (sw_ad as2 b 118)))
        rw [hb118]; exact lv_at hl4 3 rfl
      rcases sf_get_put hg with ⟨rfl, e1⟩ | ⟨-, hg, -⟩
      · cases e1
        exact lv_at hl4 2 rfl
      rcases sf_get_put hg with ⟨rfl, e1⟩ | ⟨-, hg, -⟩
      · cases e1
        show ls4[2]? = some (.val (.ref (sw_ad as2 b 0)))
        rw [ad0]; exact lv_at hl4 1 rfl
      rcases sf_get_put hg with ⟨rfl, e1⟩ | ⟨-, hg, -⟩
      · cases e1
        show ls4[3]? = some (.val (.ref (sw_ad as2 b 59)))
        rw [ad59]; exact lv_at hl4 0 rfl
      · simp [sf_get] at hg
