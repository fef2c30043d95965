/-! the law's loop: its rows, over two worlds at once -/
section SL
variable {p : Program} {l : Launch} {e : Env} {s : State} {m : MethodId} {args : Array Value} {below : List Frame} {meth : Method} {c : Code} {Q : State → Prop} {D : va_G} {cy : Nat → ClassId} {A : Nat → Prop} {b L : Nat} {xs : Nat → Int32}
def sl_At (p : Program) (s : State) (m : MethodId) (args : Array Value) (c : Code) (D : va_G) (cy : Nat → ClassId) (A : Nat → Prop) (b L : Nat) (xs : Nat → Int32) : Prop :=
  sd_At p s m args c "StreamFuserLaw" code 4 D cy A ∧ (∀ w ∈ sf_N, va_Nw w s) ∧ va_X b L xs s s.heap ∧ b < s.heap.size ∧ ¬ A b ∧ L ≤ 3072
abbrev sl_lv (b x y : Nat) (i : Int32) : List (Nat × Value) := [(0, .ref b), (1, .ref x), (2, .ref y), (3, .int i)]
def sl_W (p : Program) (l : Launch) (e : Env) (s : State) (m : MethodId) (args : Array Value) (below : List Frame) (meth : Method) (c : Code) (Q : State → Prop) (A : Nat → Prop) (Z : Heap → Prop) (lv : List (Nat × Value)) (pc : Nat) (st : List Value) : Prop :=
  ∀ (H : Heap) (locs : List Loc) (ls : Array Slot), lv_has ls 4 lv → Z H → va_S A s.heap H locs → W p l e room_1 s m args below meth c H locs 98 10101 Q (F0 m pc ls st)
theorem sl_nat {n k : Nat} (h : n + k < 2 ^ 31) : (Int32.ofNat n + Int32.ofNat k).toNatClampNeg = n + k := by
  rw [← Int32.ofNat_add]
  exact Int32.toNatClampNeg_ofNat_of_lt h
theorem sl_in {n L : Nat} (h : n < L) (hL : L ≤ 3072) : vp_in (Int32.ofNat n) L := vp_in_nI h (by omega)
/-- an argument: aload_0, iload_3, iconst, iadd, iaload -/
def sl_dA (pc k : Nat) : Prop := decode code pc = .ok (.aload_n 0, 1) ∧ decode code (pc + 1) = .ok (.iload_n 3, 1) ∧ decode code (pc + 2) = .ok (.iconst (k : Int), 1) ∧ decode code (pc + 3) = .ok (.iadd, 1) ∧ decode code (pc + 4) = .ok (.iaload, 1)
theorem sl_arg (h0 : sl_At p s m args c D cy A b L xs) {Z : Heap → Prop} {x y n k pc : Nat} {st : List Value} (hn : n + k < L) (hd : sl_dA pc k)
    (kk : sl_W p l e s m args below meth c Q A Z (sl_lv b x y (Int32.ofNat n)) (pc + 5) (.int (xs (n + k)) :: st)) : sl_W p l e s m args below meth c Q A Z (sl_lv b x y (Int32.ofNat n)) pc st := by
  obtain ⟨⟨hx, hb, -⟩, -, hX, hbl, hbA, hL⟩ := h0
  obtain ⟨d1, d2, d3, d4, d5⟩ := hd
  intro H locs ls hl hZ hS
  refine lv_aload_n hx hb d1 rfl (lv_at hl 0 rfl) ?_
  refine lv_iload_n hx hb d2 rfl (lv_at hl 3 rfl) ?_
  refine lv_iconst hx hb (v := Int32.ofNat k) d3 rfl ?_
  refine lv_iadd hx hb d4 ?_
  have hin : vp_in (Int32.ofNat n + Int32.ofNat k) L := by
    rw [← Int32.ofNat_add]
    exact sl_in hn hL
  refine va_sld hx hb hX hbl hbA hS hin d5 ?_
  rw [sl_nat (by omega)]
  exact kk H locs ls hl hZ hS
def sl_ks (xs : Nat → Int32) (n k na : Nat) : List Int32 := (List.range' k na).map fun j => xs (n + j)
theorem sl_args (h0 : sl_At p s m args c D cy A b L xs) {Z : Heap → Prop} {x y n : Nat} (hn : n + 6 ≤ L) : ∀ (na k pc : Nat) (st : List Value), k + na ≤ 6 → (∀ j, j < na → sl_dA (pc + 5 * j) (k + j)) → sl_W p l e s m args below meth c Q A Z (sl_lv b x y (Int32.ofNat n)) (pc + 5 * na) (((sl_ks xs n k na).map Value.int).reverse ++ st) →
    sl_W p l e s m args below meth c Q A Z (sl_lv b x y (Int32.ofNat n)) pc st
  | 0, k, pc, st, _, _, h => h
  | na + 1, k, pc, st, hk, hd, h => by
    refine sl_arg h0 (k := k) (by omega) (hd 0 (by omega)) ?_
    refine sl_args h0 hn na (k + 1) (pc + 5) (.int (xs (n + k)) :: st) (by omega) (fun j hj => by have := hd (j + 1) (by omega); rwa [show pc + 5 * (j + 1) = pc + 5 + 5 * j by omega, show k + (j + 1) = k + 1 + j by omega] at this) ?_
    have e1 : pc + 5 * (na + 1) = pc + 5 + 5 * na := by omega
    have e2 : sl_ks xs n k (na + 1) = xs (n + k) :: sl_ks xs n (k + 1) na := by simp [sl_ks, List.range'_succ]
    rw [e1, e2] at h
    simpa using h
theorem sl_vints (ad : Nat → Nat) (ks : List Int32) : (ks.map Value.int).map (sf_v ad) = ks.map Value.int := by
  rw [List.map_map]
  rfl
/-- a call of the law's -/
theorem sl_call (h0 : sl_At p s m args c D cy A b L xs) {lay : sf_Lay} {ad : Nat → Nat} {σ σ' : sf_S} (hinj : sf_inj lay ad) (hAd : ∀ k, k < lay.length → A (ad k))
    {y : MethodName} {cc2 : ByteArray} {nL2 idx pc ci : Nat} {ret : Option FieldType} {rm2 : Room} {F : List Value → sf_S → Option sf_Q} {fs : List (Option Nat)} {T : u_T} {N : Nat} (hC : sf_C l lay y cc2 nL2 ret rm2 F) (hw : sf_MW y cc2 nL2 ret) (hd : decode code pc = .ok (.invokevirtual idx, 3))
    (hl : Cond.methodLink "StreamFuserLaw" idx y ∈ sf_T) (hi : Cond.instanceMethod y ∈ sf_T) (hsel : Cond.selects y.cls y y ∈ sf_T) {ks : List Int32} (hn : (parseMethodDescriptor y.desc).map (fun d => d.parameters.length) = some ks.length) (hq : lay[0]? = some (.inl (ci, fs))) (hT : vwCl[ci]? = some (y.cls, T, N)) (hr : rm2.frames + 1 ≤ 2048 ∧ 8 + (nL2 + 11) + rm2.locals ≤ 84000)
    {v : Value} (hF : F (.ref 0 :: ks.map Value.int) σ = some (some v, σ')) (hv : ∀ q, v ≠ .ref q) {Z Z' : Heap → Prop} (hZ : ∀ H, Z H → va_P D vwCl (sf_wd lay ad cy σ) H)
    (hZ' : ∀ H H', Z H → H.size ≤ H'.size → (∀ q, q < H.size → ¬ sf_A lay ad H.size q → H'[q]? = H[q]?) → va_P D vwCl (sf_wd lay ad cy σ') H' → Z' H') {lv : List (Nat × Value)} {rest : List Value} (hrest : (rest.map fun v => v.category).sum ≤ 8)
    (kk : sl_W p l e s m args below meth c Q A Z' lv (pc + 3) (v :: rest)) : sl_W p l e s m args below meth c Q A Z lv pc ((ks.map Value.int).reverse ++ .ref (ad 0) :: rest) := by
  obtain ⟨⟨hx, hb, hml, hown, hts, hK, hA⟩, hN, -⟩ := h0
  obtain ⟨hc0, hs0, hMet⟩ := hC
  obtain ⟨w1, w2, w3, w4⟩ := hw
  intro H locs ls hls hZH hS
  have hP := hZ H hZH
  have hM := hMet D cy ad H.size _ σ _ hinj hF
  have cw : CallW room_1 s args "StreamFuserLaw" y.cls idx y cc2 nL2 ret (Cond.code y cc2 nL2 ret :: sf_T) rm2 0 0 ks.length :=
    ⟨callB_of ks.length hts (sf_T_code w1) rfl hc0 hs0 (hts _ w2) (hts _ hl) ⟨w3, w4, hn⟩ hr, hts _ hi, hts _ hsel⟩
  have hpre : PreV s H y.cls (ad 0) (sf_Pc lay D cy ad H.size (.ref 0 :: ks.map Value.int) σ) (ks.map Value.int) := by
    refine ⟨sf_pc_blind, va_recv hK hP hT (sf_wd_at hq), fun U hU hW => ?_⟩
    have := sf_pre (av := .ref 0 :: ks.map Value.int) hP hK hN U hU hW
    rw [List.map_cons, sl_vints] at this
    exact this
  have hrunv := va_runV (p := p) (l := l) (e := e) (R := room_1) (s := s) (m := m) (args := args) (below := below) (meth := meth) (c := c) (H := H) (locs := locs) (cells := 98) (slots := 10101) (g := F0 m pc ls ((ks.map Value.int).reverse ++ .ref (ad 0) :: rest)) (As := ks.map Value.int) (rest := rest) ⟨hx, hb, hml, hown, hts⟩ hM cw hpre rfl (by simp) hls.1 rfl (lv_room hrest) hd ⟨by decide, by decide⟩
  intro T1 hT1 X
  obtain ⟨v1, st₀, t, T', L', g0, X', hL', g1, g2, ⟨⟨hv1, hP2⟩, hzz, hkk⟩, stp⟩ := hrunv T1 hT1 X
  have hv2 : v1 = some v := by
    have hv1' := Outcome.returned.inj hv1
    rw [hv1']
    show some (sf_v ad v) = some v
    rw [sf_v_none ad hv]
  subst hv2
  rw [g0] at hzz hkk
  have hfree : ∀ q, sf_A lay ad H.size q → A q := by
    intro q hq
    rcases hq with ⟨k, f1, rfl⟩ | hq
    · exact hAd k f1
    · exact hA q (Nat.le_trans hS.1 hq)
  have hS1 : va_S A s.heap T'.heap (locs ++ L') := ⟨Nat.le_trans hS.1 (by rw [g1]; exact hzz), fun q f1 f2 => by rw [g1, hkk q (Nat.lt_of_lt_of_le f1 hS.1) (fun zz => f2 (hfree q zz))]; exact hS.2.1 q f1 f2, fun q hq => by
      rcases List.mem_append.mp hq with h | h
      · exact hS.2.2 q h
      · exact hfree _ (hL' q h)⟩
  have hZ2 : Z' T'.heap := hZ' H T'.heap hZH (by rw [g1]; exact hzz) (fun q f1 f2 => by rw [g1]; exact hkk q f1 f2) (by rw [g1]; exact hP2)
  obtain ⟨t3, a1, b1⟩ := kk T'.heap (locs ++ L') ls hls hZ2 hS1 T' rfl X'
  exact ⟨t3, stp t3 a1, b1⟩
end SL
