/-! the law's loop -/
section SLO
variable {p : Program} {l : Launch} {e : Env} {s : State} {m : MethodId} {args : Array Value} {below : List Frame} {meth : Method} {c : Code} {Q : State → Prop} {D : va_G} {cy : Nat → ClassId} {A : Nat → Prop} {b L : Nat} {xs : Nat → Int32} {aC aM : Nat → Nat}
theorem sl_toInt {n : Nat} (h : n < 2 ^ 31) : (Int32.ofNat n).toInt = n := Int32.toInt_ofNat_of_lt h
theorem sl_lm6 {L : Nat} (h : L ≤ 3072) : (Int32.ofNat L - 6).toInt = (L : Int) - 6 := by
  have e6 : (6 : Int32).toInt = 6 := by decide
  have e1 : (Int32.ofNat L).toInt = L := sl_toInt (by omega)
  rw [Int32.toInt_sub, e1, e6]
  exact Int.bmod_eq_of_le (by omega) (by omega)
theorem sl_at27 (h0 : sl_At p s m args c D cy A b L xs) (hA : sl_Ads A aC aM) {n N : Nat} (hN : N < 512) (hn : n + 6 ≤ L) {Inv : Nat → sf_S → sf_S → Prop} (hI : sl_Good Inv) {σ τ : sf_S} (h : Inv N σ τ) (kk : ∀ σ τ, Inv (N + 1) σ τ → sl_W p l e s m args below meth c Q A (sl_Z D cy aC aM σ τ) (sl_lv b (aC 0) (aM 0) (Int32.ofNat n)) 773 []) : sl_W p l e s m args below meth c Q A (sl_Z D cy aC aM σ τ) (sl_lv b (aC 0) (aM 0) (Int32.ofNat n)) 27 [] := by
  obtain ⟨⟨hx, hb, -⟩, -, hX, hbl, hbA, hL⟩ := id h0
  intro H locs ls hl hZ hS
  refine lv_aload_n hx hb (by decide +kernel : decode code 27 = .ok (.aload_n 0, 1)) rfl (lv_at hl 0 rfl) ?_
  refine lv_iload_n hx hb (by decide +kernel : decode code 28 = .ok (.iload_n 3, 1)) rfl (lv_at hl 3 rfl) ?_
  refine va_sld hx hb hX hbl hbA hS (sl_in (by omega) hL) (by decide +kernel : decode code 29 = .ok (.iaload, 1)) ?_
  refine lv_bipush hx hb (by decide +kernel : decode code 30 = .ok (.bipush 31, 2)) rfl ?_
  refine lv_iand hx hb (by decide +kernel : decode code 32 = .ok (.iand, 1)) ?_
  exact sl_switch h0 hA hN hn hI h _ kk H locs ls hl hZ hS
theorem sl_loop (h0 : sl_At p s m args c D cy A b L xs) (hA : sl_Ads A aC aM) {Inv : Nat → sf_S → sf_S → Prop} (hI : sl_Good Inv) (hret : ∀ (H : Heap) (locs : List Loc) (ls : Array Slot), va_S A s.heap H locs → W p l e room_1 s m args below meth c H locs 98 10101 Q (F0 m 780 ls [.int 1])) : ∀ (r N : Nat) (σ τ : sf_S), L < 6 * (N + r) → 6 * N ≤ L → Inv N σ τ →
    sl_W p l e s m args below meth c Q A (sl_Z D cy aC aM σ τ) (sl_lv b (aC 0) (aM 0) (Int32.ofNat (6 * N))) 18 []
  | 0, N, σ, τ, h1, h2, _ => by omega
  | r + 1, N, σ, τ, h1, h2, h => by
    obtain ⟨⟨hx, hb, -⟩, -, hX, hbl, hbA, hL⟩ := id h0
    intro H locs ls hl hZ hS
    refine lv_iload_n hx hb (by decide +kernel : decode code 18 = .ok (.iload_n 3, 1)) rfl (lv_at hl 3 rfl) ?_
    refine lv_aload_n hx hb (by decide +kernel : decode code 19 = .ok (.aload_n 0, 1)) rfl (lv_at hl 0 rfl) ?_
    refine va_slen hx hb hX hbl hbA hS (by decide +kernel : decode code 20 = .ok (.arraylength, 1)) ?_
    refine lv_bipush hx hb (v := 6) (by decide +kernel : decode code 21 = .ok (.bipush 6, 2)) (by decide) ?_
    refine lv_isub hx hb (by decide +kernel : decode code 23 = .ok (.isub, 1)) ?_
    refine lv_icmp_gt hx hb (by decide +kernel : decode code 24 = .ok (.if_icmp .gt 755, 3)) (by decide : ((24 : Nat) : Int) + 755 = ((779 : Nat) : Int)) (fun _ => ?_) (fun hlt => ?_)
    · exact lv_iconst hx hb (v := 1) (by decide +kernel : decode code 779 = .ok (.iconst 1, 1)) rfl (hret H locs ls hS)
    · have hn : 6 * N + 6 ≤ L := by
        rw [Int32.lt_iff_toInt_lt, sl_lm6 hL, sl_toInt (by omega)] at hlt
        omega
      refine sl_at27 h0 hA (by omega) hn hI h (fun σ2 τ2 h2 => ?_) H locs ls hl hZ hS
      intro H locs ls hl hZ hS
      refine lv_iinc (k := 3) hx hb (by decide +kernel : decode code 773 = .ok (.iinc 3 6, 3)) hl rfl (v := Int32.ofNat (6 * (N + 1))) (lv' := [(3, .int (Int32.ofNat (6 * (N + 1)))), (0, .ref b), (1, .ref (aC 0)), (2, .ref (aM 0))]) ?_ (by decide) rfl (fun ls' hl' => ?_)
      · rw [show 6 * (N + 1) = 6 * N + 6 by omega, Int32.ofNat_add]
        rfl
      · refine lv_goto hx hb (by decide +kernel : decode code 776 = .ok (.goto (-758), 3)) (by decide : ((776 : Nat) : Int) + (-758) = ((18 : Nat) : Int)) ?_
        refine sl_loop h0 hA hI hret r (N + 1) σ2 τ2 (by omega) (by omega) h2 H locs ls' ?_ hZ hS
        refine ⟨hl'.1, hl'.2.1, fun q hq => hl'.2.2 q ?_⟩
        simp only [List.mem_cons, List.not_mem_nil, or_false] at hq
        rcases hq with rfl | rfl | rfl | rfl <;> simp
end SLO
