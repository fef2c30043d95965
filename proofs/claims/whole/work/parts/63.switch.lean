/-! the law's switch (by wip/tools/law.py) -/
section SLS
variable {p : Program} {l : Launch} {e : Env} {s : State} {m : MethodId} {args : Array Value} {below : List Frame} {meth : Method} {c : Code} {Q : State → Prop} {D : va_G} {cy : Nat → ClassId} {A : Nat → Prop} {b L : Nat} {xs : Nat → Int32} {aC aM : Nat → Nat}
theorem sl_tab : decode code 33 = .ok (.tableswitch 740 0 22 #[107, 130, 143, 156, 169, 202, 225, 248, 271, 294, 327, 351, 375, 398, 421, 455, 498, 521, 574, 617, 680, 703, 726], 107) := by decide +kernel
theorem sl_switch (h0 : sl_At p s m args c D cy A b L xs) (hA : sl_Ads A aC aM) {n N : Nat} (hN : N < 512) (hn : n + 6 ≤ L) {Inv : Nat → sf_S → sf_S → Prop} (hI : sl_Good Inv) {σ τ : sf_S} (h : Inv N σ τ) (x : Int32) (kk : ∀ σ τ, Inv (N + 1) σ τ → sl_W p l e s m args below meth c Q A (sl_Z D cy aC aM σ τ) (sl_lv b (aC 0) (aM 0) (Int32.ofNat n)) 773 []) : sl_W p l e s m args below meth c Q A (sl_Z D cy aC aM σ τ) (sl_lv b (aC 0) (aM 0) (Int32.ofNat n)) 33 [.int x] := by
  obtain ⟨hm, g0, g1, g2, g3, g4, g5, g6, g7, g8, g9, g10, g11, g12, g13, g14, g15, g16, g17, g18, g19, g20, g21, g22⟩ := hI N σ τ hN h
  obtain ⟨⟨hx, hb, -⟩, -⟩ := id h0
  by_cases hr : x.toInt < 0 ∨ 22 < x.toInt
  · intro H locs ls hl hZ hS
    exact lv_tableOut hx hb sl_tab hr (by decide : ((33 : Nat) : Int) + 740 = ((773 : Nat) : Int)) (kk _ _ hm H locs ls hl hZ hS)
  · have hr1 : ¬ x.toInt < 0 := fun h => hr (Or.inl h)
    have hr2 : ¬ 22 < x.toInt := fun h => hr (Or.inr h)
    obtain ⟨j, hj⟩ : ∃ j : Nat, x.toInt = (j : Int) := ⟨x.toInt.toNat, by omega⟩
    have hj23 : j < 23 := by omega
    have go : ∀ (off : Int) (tgt : Nat), (#[107, 130, 143, 156, 169, 202, 225, 248, 271, 294, 327, 351, 375, 398, 421, 455, 498, 521, 574, 617, 680, 703, 726] : Array Int)[j]? = some off → ((33 : Nat) : Int) + off = ((tgt : Nat) : Int) → sl_W p l e s m args below meth c Q A (sl_Z D cy aC aM σ τ) (sl_lv b (aC 0) (aM 0) (Int32.ofNat n)) tgt [] → sl_W p l e s m args below meth c Q A (sl_Z D cy aC aM σ τ) (sl_lv b (aC 0) (aM 0) (Int32.ofNat n)) 33 [.int x] := by
      intro off tgt ho ht k H locs ls hl hZ hS
      refine lv_tableIn hx hb sl_tab hr1 hr2 ?_ ht (k H locs ls hl hZ hS)
      have e : (x.toInt - 0).toNat = j := by omega
      rw [e]; exact ho
    clear hr hr1 hr2
    match j, hj23 with
    | 0, _ => exact go 107 140 rfl (by decide) (sl_case_type h0 hA hn (g0 _) kk)
    | 1, _ => exact go 130 163 rfl (by decide) (sl_case_wipe h0 hA hn (g1) kk)
    | 2, _ => exact go 143 176 rfl (by decide) (sl_case_fault h0 hA hn (g2) kk)
    | 3, _ => exact go 156 189 rfl (by decide) (sl_case_plan h0 hA hn (g3) kk)
    | 4, _ => exact go 169 202 rfl (by decide) (sl_case_node h0 hA hn (g4 _ _) kk)
    | 5, _ => exact go 202 235 rfl (by decide) (sl_case_text h0 hA hn (g5 _) kk)
    | 6, _ => exact go 225 258 rfl (by decide) (sl_case_tidy h0 hA hn (g6 _) kk)
    | 7, _ => exact go 248 281 rfl (by decide) (sl_case_rules h0 hA hn (g7 _) kk)
    | 8, _ => exact go 271 304 rfl (by decide) (sl_case_saves h0 hA hn (g8 _) kk)
    | 9, _ => exact go 294 327 rfl (by decide) (sl_case_run h0 hA hn (g9 _ _) kk)
    | 10, _ => exact go 327 360 rfl (by decide) (sl_case_result h0 hA hn (g10 _) kk)
    | 11, _ => exact go 351 384 rfl (by decide) (sl_case_fold h0 hA hn (g11 _) kk)
    | 12, _ => exact go 375 408 rfl (by decide) (sl_case_failure h0 hA hn (g12 _) kk)
    | 13, _ => exact go 398 431 rfl (by decide) (sl_case_told h0 hA hn (g13 _) kk)
    | 14, _ => exact go 421 454 rfl (by decide) (sl_case_written h0 hA hn (g14 _ _) kk)
    | 15, _ => exact go 455 488 rfl (by decide) (sl_case_sheet h0 hA hn (g15 _ _ _) kk)
    | 16, _ => exact go 498 531 rfl (by decide) (sl_case_lose h0 hA hn (g16 _) kk)
    | 17, _ => exact go 521 554 rfl (by decide) (sl_case_lay h0 hA hn (g17 _ _ _ _) kk)
    | 18, _ => exact go 574 607 rfl (by decide) (sl_case_get h0 hA hn (g18 _ _ _) kk)
    | 19, _ => exact go 617 650 rfl (by decide) (sl_case_copy h0 hA hn (g19 _ _ _ _ _) kk)
    | 20, _ => exact go 680 713 rfl (by decide) (sl_case_write h0 hA hn (g20 _) kk)
    | 21, _ => exact go 703 736 rfl (by decide) (sl_case_count h0 hA hn (g21 _) kk)
    | 22, _ => exact go 726 759 rfl (by decide) (sl_case_digest h0 hA hn (g22) kk)
    | j + 23, h => omega
end SLS
