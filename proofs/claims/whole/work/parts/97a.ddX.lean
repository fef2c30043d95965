/-! the numbers of all d: what each change of the plan leaves of them -/
theorem sc_dd_Xd {n a m : Nat} {X : Nat → Nat → Int32} (hd : sc_dd n (X 0) (X 2)) (h : a + m ≤ n) : sc_dd (n - m) (sc_Xd X a m 0) (sc_Xd X a m 2) := by
  obtain ⟨h1, h2⟩ := hd
  have hb : ∀ j, j < n - m → sc_sh a m j < n := fun j hj => by unfold sc_sh; split <;> omega
  refine ⟨fun j hj q => h1 _ (hb j hj) q, ?_⟩
  have e1 := sc_ds_shift (C := sc_dc (X 0) (X 2)) (C' := sc_dc (sc_Xd X a m 0) (sc_Xd X a m 2)) (b := a) (m := m) (n - m) (by omega) (fun j hj _ => by
    show sc_dc (X 0) (X 2) (sc_sh a m j) = _
    unfold sc_sh; rw [if_neg (by omega)])
  have e2 := sc_ds_congr (C := sc_dc (X 0) (X 2)) (C' := sc_dc (sc_Xd X a m 0) (sc_Xd X a m 2)) a (fun j hj => by
    show sc_dc (X 0) (X 2) (sc_sh a m j) = _
    unfold sc_sh; rw [if_pos hj])
  have e3 := sc_ds_mono (C := sc_dc (X 0) (X 2)) a m
  rw [show n - m + m = n by omega] at e1
  omega
/-- one node written anew -/
theorem sc_dd_pt {n k : Nat} {L F L' F' : Nat → Int32} (hd : sc_dd n L F) (h1 : ∀ j, j ≠ k → L' j = L j ∧ F' j = F j) (h2 : L' k ≠ 100) : sc_dd n L' F' := by
  obtain ⟨a, b⟩ := hd
  refine ⟨fun j hj q => ?_, Nat.le_trans (sc_ds_pt n (fun j hj => ?_)) b⟩
  · by_cases e : j = k
    · rw [e] at q; exact absurd q h2
    · rw [(h1 j e).2]; exact a j hj (by rw [← (h1 j e).1]; exact q)
  · unfold sc_dc
    by_cases e : j = k
    · rw [e, if_neg h2]; exact Nat.zero_le _
    · rw [(h1 j e).1, (h1 j e).2]; exact Nat.le_refl _
theorem sc_dd_Xn {n k m : Nat} {X : Nat → Nat → Int32} (hd : sc_dd n (X 0) (X 2)) (h : k + 1 + m ≤ n) : sc_dd (n - m) (sc_Xn X k m 0) (sc_Xn X k m 2) := by
  unfold sc_Xn
  refine sc_dd_Xd (X := sc_X4 X k (sc_w4 114 (-1) 0 0)) (sc_dd_pt (k := k) hd (fun j e => ?_) ?_) h
  · unfold sc_X4; rw [if_neg e, if_neg e]; exact ⟨rfl, rfl⟩
  · unfold sc_X4; rw [if_pos rfl]; show ¬ (114 : Int32) = 100; decide
theorem sc_dd_X1 {n k : Nat} {v : Int32} {Y : Nat → Nat → Int32} (hd : sc_dd n (Y 0) (Y 2)) (h : Y 0 k ≠ 100) : sc_dd n (sc_X1 Y 2 k v 0) (sc_X1 Y 2 k v 2) := by
  refine sc_dd_pt (k := k) hd (fun j e => ?_) ?_
  · unfold sc_X1; rw [if_neg (fun z => e z.2), if_neg (fun z => e z.2)]; exact ⟨rfl, rfl⟩
  · unfold sc_X1; rw [if_neg (fun z => absurd z.1 (by decide))]; exact h
theorem sc_dc_le {C : Nat → Nat} {k n : Nat} (hk : k < n) : C k ≤ sc_ds C n := by
  have := sc_ds_mono (C := C) (k + 1) (n - (k + 1))
  rw [show k + 1 + (n - (k + 1)) = n by omega, sc_ds] at this
  omega
/-- the merging rules -/
theorem sc_dd_Xg {n k : Nat} {X : Nat → Nat → Int32} {f s : Int32} (hd : sc_dd n (X 0) (X 2)) (hk : k + 1 < n) (hc : X 0 (k + 1) ≠ 100 ∨ (X 0 k = 100 ∧ X 0 (k + 1) = 100 ∧ f = X 2 k + X 2 (k + 1))) : sc_dd (n - 1) (sc_Xd (sc_Xg X k f s) k 1 0) (sc_Xd (sc_Xg X k f s) k 1 2) := by
  have g0 : ∀ j, sc_Xg X k f s 0 j = X 0 j := fun j => by unfold sc_Xg sc_X1; simp
  have g2 : ∀ j, sc_Xg X k f s 2 j = if j = k + 1 then f else X 2 j := fun j => by unfold sc_Xg sc_X1; simp
  rcases hc with hc | ⟨c1, c2, c3⟩
  · refine sc_dd_Xd (X := sc_Xg X k f s) (sc_dd_pt (k := k + 1) hd (fun j e => ⟨g0 j, ?_⟩) ?_) (by omega)
    · rw [g2, if_neg e]
    · rw [g0]; exact hc
  · obtain ⟨h1, h2⟩ := hd
    have a1 := h1 k (by omega) c1
    have a2 := h1 (k + 1) hk c2
    have b1 : sc_dc (X 0) (X 2) k = (X 2 k).toInt.toNat := if_pos c1
    have b2 : sc_dc (X 0) (X 2) (k + 1) = (X 2 (k + 1)).toInt.toNat := if_pos c2
    have l1 := sc_dc_le (C := sc_dc (X 0) (X 2)) (show k < n by omega)
    have l2 := sc_dc_le (C := sc_dc (X 0) (X 2)) hk
    have ef : f.toInt = (X 2 k).toInt + (X 2 (k + 1)).toInt := by
      rw [c3, Int32.toInt_add]
      apply Int.bmod_eq_of_le <;> omega
    have hK : sc_dc (sc_Xd (sc_Xg X k f s) k 1 0) (sc_Xd (sc_Xg X k f s) k 1 2) k = (X 2 k).toInt.toNat + (X 2 (k + 1)).toInt.toNat := by
      show (if sc_Xg X k f s 0 (sc_sh k 1 k) = 100 then (sc_Xg X k f s 2 (sc_sh k 1 k)).toInt.toNat else 0) = _
      rw [show sc_sh k 1 k = k + 1 from if_neg (by omega), g0, if_pos c2, g2, if_pos rfl, ef]
      omega
    refine ⟨fun j hj q => ?_, ?_⟩
    · have q' : X 0 (sc_sh k 1 j) = 100 := by rw [← g0]; exact q
      show 0 ≤ (sc_Xg X k f s 2 (sc_sh k 1 j)).toInt
      rw [g2]
      split
      · omega
      · exact h1 _ (by unfold sc_sh; split <;> omega) q'
    · have e1 := sc_ds_shift (C := sc_dc (X 0) (X 2)) (C' := sc_dc (sc_Xd (sc_Xg X k f s) k 1 0) (sc_Xd (sc_Xg X k f s) k 1 2)) (b := k + 1) (m := 1) (n - 1) (by omega) (fun j hj _ => by
        show (if sc_Xg X k f s 0 (sc_sh k 1 j) = 100 then (sc_Xg X k f s 2 (sc_sh k 1 j)).toInt.toNat else 0) = _
        rw [show sc_sh k 1 j = j + 1 from if_neg (by omega), g0, g2, show (if j + 1 = k + 1 then f else X 2 (j + 1)) = X 2 (j + 1) from if_neg (by omega)]
        rfl)
      have e2 := sc_ds_congr (C := sc_dc (X 0) (X 2)) (C' := sc_dc (sc_Xd (sc_Xg X k f s) k 1 0) (sc_Xd (sc_Xg X k f s) k 1 2)) k (fun j hj => by
        show (if sc_Xg X k f s 0 (sc_sh k 1 j) = 100 then (sc_Xg X k f s 2 (sc_sh k 1 j)).toInt.toNat else 0) = _
        rw [show sc_sh k 1 j = j from if_pos hj, g0, g2, show (if j = k + 1 then f else X 2 j) = X 2 j from if_neg (by omega)]
        rfl)
      rw [show n - 1 + 1 = n by omega] at e1
      have s1 : sc_ds (sc_dc (sc_Xd (sc_Xg X k f s) k 1 0) (sc_Xd (sc_Xg X k f s) k 1 2)) (k + 1) = sc_ds (sc_dc (sc_Xd (sc_Xg X k f s) k 1 0) (sc_Xd (sc_Xg X k f s) k 1 2)) k + sc_dc (sc_Xd (sc_Xg X k f s) k 1 0) (sc_Xd (sc_Xg X k f s) k 1 2) k := rfl
      have s2 : sc_ds (sc_dc (X 0) (X 2)) (k + 1 + 1) = sc_ds (sc_dc (X 0) (X 2)) (k + 1) + sc_dc (X 0) (X 2) (k + 1) := rfl
      have s3 : sc_ds (sc_dc (X 0) (X 2)) (k + 1) = sc_ds (sc_dc (X 0) (X 2)) k + sc_dc (X 0) (X 2) k := rfl
      rw [s1, s2, s3, e2, hK, b1, b2] at e1
      omega
theorem sc_ddn {n : Nat} {τ : sf_S} {P : Prop} (hn : n ≤ 40) (h : τ 0 21 = nI n) (H : sc_dd n (τ 11) (τ 13) → P) : ∀ m, m ≤ 40 → τ 0 21 = nI m → sc_dd m (τ 11) (τ 13) → P := fun m hm e hd => H (by
  rw [(nI_eq (by omega) (by omega)).mp (h.symm.trans e)]; exact hd)
