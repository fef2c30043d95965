/-! the law's pairs of calls -/
def sl_Z (D : va_G) (cy : Nat → ClassId) (aC aM : Nat → Nat) (σ τ : sf_S) (H : Heap) : Prop := va_P D vwCl (sf_wd sf_layC aC cy σ) H ∧ va_P D vwCl (sf_wd sf_layM aM cy τ) H
def sl_Ads (A : Nat → Prop) (aC aM : Nat → Nat) : Prop := sf_inj sf_layC aC ∧ sf_inj sf_layM aM ∧ (∀ k, k < sf_layC.length → A (aC k)) ∧ (∀ k, k < sf_layM.length → A (aM k)) ∧ ∀ i j, i < sf_layC.length → j < sf_layM.length → aC i ≠ aM j
theorem sl_keep {D : va_G} {cy : Nat → ClassId} {lay lay2 : sf_Lay} {ad ad2 : Nat → Nat} {τ : sf_S} {H H' : Heap} (hdis : ∀ i j, i < lay.length → j < lay2.length → ad i ≠ ad2 j) (h : va_P D vwCl (sf_wd lay2 ad2 cy τ) H) (hk : ∀ q, q < H.size → ¬ sf_A lay ad H.size q → H'[q]? = H[q]?) : va_P D vwCl (sf_wd lay2 ad2 cy τ) H' := h.kept (fun k q hq => by
  have hlt := (h k q hq).lt
  refine hk _ hlt (fun hA => ?_)
  rw [sf_wd, List.getElem?_mapIdx] at hq
  cases e : lay2[k]? with
  | none => rw [e] at hq; cases hq
  | some sh =>
    rw [e] at hq
    cases hq
    have hk2 : k < lay2.length := (List.getElem?_eq_some_iff.mp e).1
    rcases hA with ⟨i, hi, e2⟩ | hA
    · exact hdis i k hi hk2 e2.symm
    · exact absurd hlt (Nat.not_lt.mpr hA))
section SLP
variable {p : Program} {l : Launch} {e : Env} {s : State} {m : MethodId} {args : Array Value} {below : List Frame} {meth : Method} {c : Code} {Q : State → Prop} {D : va_G} {cy : Nat → ClassId} {A : Nat → Prop} {b L : Nat} {xs : Nat → Int32} {aC aM : Nat → Nat}
theorem sl_pair (h0 : sl_At p s m args c D cy A b L xs) (hA : sl_Ads A aC aM) {n : Nat} (hn : n + 6 ≤ L) {na pc idC idM : Nat} {σ τ σ2 τ2 : sf_S} {FC FM : List Value → sf_S → Option sf_Q} {v w : Value}
    (d1 : decode code pc = .ok (.aload_n 1, 1)) (d2 : decode code (pc + 1 + 5 * na) = .ok (.invokevirtual idC, 3)) (d3 : decode code (pc + 4 + 5 * na) = .ok (.aload_n 2, 1)) (d4 : decode code (pc + 5 + 10 * na) = .ok (.invokevirtual idM, 3)) (hna : 1 + na ≤ 6)
    (dC : ∀ j, j < na → sl_dA (pc + 1 + 5 * j) (1 + j)) (dM : ∀ j, j < na → sl_dA (pc + 5 + 5 * na + 5 * j) (1 + j)) (hC : sl_Mth l sf_layC idC na FC) (hM : sl_Mth l sf_layM idM na FM)
    (hFC : FC (.ref 0 :: (sl_ks xs n 1 na).map Value.int) σ = some (some v, σ2)) (hFM : FM (.ref 0 :: (sl_ks xs n 1 na).map Value.int) τ = some (some w, τ2)) (hv : ∀ q, v ≠ .ref q) (hw : ∀ q, w ≠ .ref q) (hcat : v.category ≤ 8)
    (kk : sl_W p l e s m args below meth c Q A (sl_Z D cy aC aM σ2 τ2) (sl_lv b (aC 0) (aM 0) (Int32.ofNat n)) (pc + 8 + 10 * na) [w, v]) : sl_W p l e s m args below meth c Q A (sl_Z D cy aC aM σ τ) (sl_lv b (aC 0) (aM 0) (Int32.ofNat n)) pc [] := by
  obtain ⟨y1, cc1, nL1, ret1, rm1, ci1, fs1, T1, N1, a1, a2, a3, a4, a5, a6, a7, a8, a9⟩ := hC
  obtain ⟨y2, cc2, nL2, ret2, rm2, ci2, fs2, T2, N2, b1, b2, b3, b4, b5, b6, b7, b8, b9⟩ := hM
  obtain ⟨i1, i2, i3, i4, i5⟩ := hA
  obtain ⟨⟨hx, hb, -⟩, -⟩ := id h0
  have hlen : (sl_ks xs n 1 na).length = na := by simp [sl_ks]
  have k3 : sl_W p l e s m args below meth c Q A (sl_Z D cy aC aM σ2 τ) (sl_lv b (aC 0) (aM 0) (Int32.ofNat n)) (pc + 5 + 5 * na) [.ref (aM 0), v] := by
    refine sl_args h0 hn na 1 (pc + 5 + 5 * na) [.ref (aM 0), v] hna dM ?_
    rw [show pc + 5 + 5 * na + 5 * na = pc + 5 + 10 * na by omega]
    refine sl_call (Z := sl_Z D cy aC aM σ2 τ) (Z' := sl_Z D cy aC aM σ2 τ2) h0 i2 i4 b1 b2 d4 b3 b4 b5 (by rw [hlen]; exact b6) b7 b8 b9 hFM hw (fun H h => h.2) (fun H H' h hz hk hP => ⟨sl_keep (fun i j hi hj e => i5 j i hj hi e.symm) h.1 hk, hP⟩) (rest := [v]) (by simpa using hcat) ?_
    rw [show pc + 5 + 10 * na + 3 = pc + 8 + 10 * na by omega]
    exact kk
  have k2 : sl_W p l e s m args below meth c Q A (sl_Z D cy aC aM σ2 τ) (sl_lv b (aC 0) (aM 0) (Int32.ofNat n)) (pc + 1 + 5 * na + 3) [v] := by
    intro H locs ls hl hZ hS
    refine lv_aload_n hx hb (by rw [show pc + 1 + 5 * na + 3 = pc + 4 + 5 * na by omega]; exact d3) rfl (lv_at hl 2 rfl) ?_
    rw [show pc + 1 + 5 * na + 3 + 1 = pc + 5 + 5 * na by omega]
    exact k3 H locs ls hl hZ hS
  have k1 : sl_W p l e s m args below meth c Q A (sl_Z D cy aC aM σ τ) (sl_lv b (aC 0) (aM 0) (Int32.ofNat n)) (pc + 1) [.ref (aC 0)] := by
    refine sl_args h0 hn na 1 (pc + 1) [.ref (aC 0)] hna dC ?_
    exact sl_call (Z := sl_Z D cy aC aM σ τ) (Z' := sl_Z D cy aC aM σ2 τ) h0 i1 i3 a1 a2 d2 a3 a4 a5 (by rw [hlen]; exact a6) a7 a8 a9 hFC hv (fun H h => h.1) (fun H H' h hz hk hP => ⟨hP, sl_keep i5 h.2 hk⟩) (rest := []) (by simp) k2
  intro H locs ls hl hZ hS
  exact lv_aload_n hx hb d1 rfl (lv_at hl 1 rfl) (k1 H locs ls hl hZ hS)
theorem sl_cmpI (h0 : sl_At p s m args c D cy A b L xs) {Z : Heap → Prop} {lv : List (Nat × Value)} {pc tgt : Nat} {off : Int} {a : Int32} (hd : decode code pc = .ok (.if_icmp .eq off, 3)) (ht : (pc : Int) + off = (tgt : Int)) (kk : sl_W p l e s m args below meth c Q A Z lv tgt []) : sl_W p l e s m args below meth c Q A Z lv pc [.int a, .int a] := by
  obtain ⟨⟨hx, hb, -⟩, -⟩ := h0
  intro H locs ls hl hZ hS
  exact lv_icmp_eq hx hb hd ht (fun _ => kk H locs ls hl hZ hS) (fun h => absurd rfl h)
theorem sl_cmpL (h0 : sl_At p s m args c D cy A b L xs) {Z : Heap → Prop} {lv : List (Nat × Value)} {pc tgt : Nat} {off : Int} {a : Int64} (hd0 : decode code pc = .ok (.lcmp, 1)) (hd : decode code (pc + 1) = .ok (.ifCond .eq off, 3)) (ht : ((pc + 1 : Nat) : Int) + off = (tgt : Int)) (kk : sl_W p l e s m args below meth c Q A Z lv tgt []) : sl_W p l e s m args below meth c Q A Z lv pc [.long a, .long a] := by
  obtain ⟨⟨hx, hb, -⟩, -⟩ := h0
  intro H locs ls hl hZ hS
  refine W.lcmp hx hb hd0 ?_
  exact lv_if_eq hx hb hd ht (fun _ => kk H locs ls hl hZ hS) (fun h => absurd (by simp [lg_cmp]) h)
end SLP
