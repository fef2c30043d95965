/-! THE JOINT WORLD: o at 0, p at 59, the script at 118; a call on one of both leaves all else as it was -/
def sf_sl (q : Nat) (σ : sf_S) : sf_S := fun a b => σ (a + q) b
def sf_pt (q : Nat) (σ σ' : sf_S) : sf_S := fun a b => if q ≤ a ∧ a < q + 59 then σ' (a - q) b else σ a b
noncomputable def sf_on {α : Type} (q : Nat) (f : sf_S → Option (α × sf_S)) (σ : sf_S) : Option (α × sf_S) := (f (sf_sl q σ)).map fun u => (u.1, sf_pt q σ u.2)
theorem sf_on_inv {α : Type} {q : Nat} {f : sf_S → Option (α × sf_S)} {σ : sf_S} {u : α × sf_S} (h : sf_on q f σ = some u) : ∃ w, f (sf_sl q σ) = some w ∧ u = (w.1, sf_pt q σ w.2) := by
  unfold sf_on at h
  obtain ⟨w, h1, h2⟩ := Option.map_eq_some_iff.mp h
  exact ⟨w, h1, h2.symm⟩
def sf_shl (q : Nat) : (Nat × List (Option Nat)) ⊕ (Nat × Nat) → (Nat × List (Option Nat)) ⊕ (Nat × Nat)
  | .inl (c, fs) => .inl (c, fs.map fun f => f.map fun k => k + q)
  | .inr z => .inr z
set_option maxRecDepth 100000 in
theorem sf_layW_eq (ns : Nat) : sf_layW ns = sf_layC.map (sf_shl 0) ++ (sf_layC.map (sf_shl 59) ++ [.inr (0, ns)]) := rfl
theorem sf_layC_len : sf_layC.length = 59 := by decide +kernel
theorem sf_layW_len (ns : Nat) : (sf_layW ns).length = 119 := by rw [sf_layW_eq]; simp [sf_layC_len]
theorem sf_layW_at (ns : Nat) {q k : Nat} (hq : q = 0 ∨ q = 59) (hk : k < 59) : (sf_layW ns)[k + q]? = (sf_layC[k]?).map (sf_shl q) := by
  rw [sf_layW_eq]
  rcases hq with rfl | rfl
  · rw [List.getElem?_append_left (by simp [sf_layC_len]; omega), List.getElem?_map]; rfl
  · rw [List.getElem?_append_right (by simp [sf_layC_len]), List.getElem?_append_left (by simp [sf_layC_len]; omega), List.getElem?_map]
    simp [sf_layC_len]
theorem sf_ce_sl {ad : Nat → Nat} {cy : Nat → ClassId} {σ : sf_S} {q k : Nat} (sh : (Nat × List (Option Nat)) ⊕ (Nat × Nat)) : sf_ce (fun k => ad (k + q)) cy (sf_sl q σ) k sh = sf_ce ad cy σ (k + q) (sf_shl q sh) := by
  rcases sh with ⟨c, fs⟩ | ⟨t, n⟩
  · simp only [sf_ce, sf_shl, Sum.inr.injEq, Prod.mk.injEq, true_and]
    apply List.ext_getElem?
    intro i
    simp only [List.getElem?_mapIdx, List.getElem?_map, Option.map_map]
    congr 1
    funext f
    cases f <;> rfl
  · rfl
theorem sf_ce_cong {ad : Nat → Nat} {cy : Nat → ClassId} {σ σ' : sf_S} {k : Nat} (sh : (Nat × List (Option Nat)) ⊕ (Nat × Nat)) (h : σ' k = σ k) : sf_ce ad cy σ' k sh = sf_ce ad cy σ k sh := by
  rcases sh with ⟨c, fs⟩ | ⟨t, n⟩ <;> simp only [sf_ce, h]
theorem sf_sl_pt {q : Nat} {σ σ' : sf_S} {k : Nat} (hk : k < 59) : sf_sl q (sf_pt q σ σ') k = σ' k := by
  funext b
  simp only [sf_sl, sf_pt]
  rw [if_pos (by omega), Nat.add_sub_cancel]
theorem so_lift {l : Launch} {y : MethodName} {cc : ByteArray} {nL : Nat} {ret : Option FieldType} {rm : Room} {F G : List Value → sf_S → Option sf_Q} (hC : sf_C l sf_layC y cc nL ret rm F) (ns : Nat)
    (hG : ∀ av σ r, G av σ = some r → ∃ (q : Nat) (tl : List Value) (r' : sf_Q), av = .ref q :: tl ∧ (q = 0 ∨ q = 59) ∧ (∀ v ∈ tl, ∀ z, v ≠ .ref z) ∧ F (.ref 0 :: tl) (sf_sl q σ) = some r' ∧ r = (r'.1, sf_pt q σ r'.2) ∧ ∀ v, r'.1 = some v → ∀ z, v ≠ .ref z) : so_C l (sf_layW ns) y cc nL ret rm G := by
  obtain ⟨h1, h2, h3⟩ := hC
  refine ⟨h1, h2, fun D cy ad sz av σ r hinj hr => ?_⟩
  obtain ⟨q, tl, r', rfl, hq, hn1, hF, rfl, hn2⟩ := hG av σ r hr
  have hWl := sf_layW_len ns
  have hCl := sf_layC_len
  have hinj' : sf_inj sf_layC (fun k => ad (k + q)) := fun i j hi hj hij => by
    have := hinj (i + q) (j + q) (by omega) (by omega) hij
    omega
  have hM := h3 D cy (fun k => ad (k + q)) sz (.ref 0 :: tl) (sf_sl q σ) r' hinj' hF
  intro p e ha hc hk s m args below hf happ hP _
  obtain ⟨p1, p2, p3, p4, p5⟩ := hP
  have htl : ∀ f g : Nat → Nat, tl.map (sf_v f) = tl.map (sf_v g) := fun f g => List.map_congr_left fun v hv => by rw [sf_v_none _ (hn1 v hv), sf_v_none _ (hn1 v hv)]
  have hav : (Value.ref 0 :: tl).map (sf_v fun k => ad (k + q)) = (Value.ref q :: tl).map (sf_v ad) := by
    rw [List.map_cons, List.map_cons, htl _ ad]
    congr 1
    show Value.ref (ad (0 + q)) = Value.ref (ad q)
    rw [Nat.zero_add]
  have hsub : va_P D vwCl (sf_wd sf_layC (fun k => ad (k + q)) cy (sf_sl q σ)) s.heap := fun k z hz => by
    obtain ⟨hk1, -⟩ := sf_wd_inv hz
    have hk2 : k < 59 := by omega
    have e1 : sf_layC[k]? = some (sf_layC[k]'hk1) := List.getElem?_eq_getElem hk1
    rw [sf_wd_at e1] at hz
    cases hz
    have e2 : (sf_layW ns)[k + q]? = some (sf_shl q (sf_layC[k]'hk1)) := by rw [sf_layW_at ns hq hk2, e1]; rfl
    have := p3.1 (k + q) _ (sf_wd_dl e2 (by omega))
    rw [sf_ce_sl]
    exact this
  obtain ⟨n, o, g1, g2, g3, ⟨⟨q1, q2⟩, q3⟩, L, q4, q5⟩ := hM p e ha hc hk s m args below hf happ ⟨by rw [hav]; exact p1, p2, hsub, p4, p5⟩ trivial
  have hAA : ∀ z, sf_A sf_layC (fun k => ad (k + q)) sz z → so_A (sf_layW ns) ad sz z := fun z hz => by
    rcases hz with ⟨k, hk1, rfl⟩ | hz
    · exact Or.inl ⟨k + q, by omega, rfl⟩
    · exact Or.inr hz
  refine ⟨n, o, g1, g2, g3, ⟨⟨?_, ?_⟩, q3.1, fun z hz1 hz2 => q3.2 z hz1 (fun hz3 => hz2 (hAA z hz3))⟩, L, q4, fun z hz => hAA _ (q5 z hz)⟩
  · obtain ⟨q1a, -⟩ := (⟨q1, trivial⟩ : _ ∧ True)
    rw [q1a]
    congr 1
    show r'.1.map _ = r'.1.map _
    cases e : r'.1 with
    | none => rfl
    | some v => simp only [Option.map_some]; rw [sf_v_none _ (hn2 v e), sf_v_none _ (hn2 v e)]
  refine ⟨?_, fun z n h1 h2 => ?_⟩
  · intro k z hz
    obtain ⟨hk0, hz⟩ := sf_wd_dli hz
    obtain ⟨hk1, hk2⟩ := sf_wd_inv hz
    by_cases hin : q ≤ k ∧ k < q + 59
    · obtain ⟨j, rfl⟩ : ∃ j, k = j + q := ⟨k - q, by omega⟩
      have hj : j < 59 := by omega
      have e1 : sf_layC[j]? = some (sf_layC[j]'(by omega)) := List.getElem?_eq_getElem (by omega)
      have e2 : (sf_layW ns)[j + q]? = some (sf_shl q (sf_layC[j]'(by omega))) := by rw [sf_layW_at ns hq hj, e1]; rfl
      rw [sf_wd_at e2] at hz
      rw [← Option.some.inj hz]
      have := q2 j _ (sf_wd_at e1)
      rw [← sf_ce_cong (σ := r'.2) (σ' := sf_sl q (sf_pt q σ r'.2)) _ (sf_sl_pt hj), sf_ce_sl] at this
      exact this
    · have e1 : (sf_layW ns)[k]? = some ((sf_layW ns)[k]'hk1) := List.getElem?_eq_getElem hk1
      rw [sf_wd_at e1] at hz
      rw [← Option.some.inj hz]
      have h0 := p3.1 k _ (sf_wd_dl e1 hk0)
      rw [sf_ce_cong (σ := σ) _ (show sf_pt q σ r'.2 k = σ k by funext b; simp only [sf_pt]; rw [if_neg hin])]
      have hlt := h0.lt
      have hold := q3.2 (ad k) hlt (fun hA => by
        rcases hA with ⟨i, hi, e⟩ | hA
        · have := hinj k (i + q) hk1 (by omega) e
          omega
        · rw [p2] at hlt; exact absurd hlt (Nat.not_lt.mpr hA))
      exact h0.kept hold
  · obtain ⟨-, z', n', e1, e2, scr, g1, -, -, -, g5⟩ := p3
    have : z' = z := by omega
    subst this
    rw [e2] at h2
    cases h2
    have hlt : ad z' < s.heap.size := (Array.getElem?_eq_some_iff.mp g1).1
    have hold := q3.2 (ad z') hlt (fun hA => by
      rcases hA with ⟨i, hi, e⟩ | hA
      · have := hinj z' (i + q) (by omega) (by omega) e
        omega
      · rw [p2] at hlt; exact absurd hlt (Nat.not_lt.mpr hA))
    refine ⟨scr, by rw [hold]; exact g1, fun j hj => ?_⟩
    have e3 : sf_pt q σ r'.2 z' j = σ z' j := if_neg (by omega)
    exact (g5 j hj).trans (congrArg (fun x => some (Value.int x)) e3.symm)

noncomputable def dW_count (q : Nat) (x1 : Int32) (σ : sf_S) : Option (Int32 × sf_S) := sf_on q (dX11_count x1) σ
noncomputable abbrev gW_count (av : List Value) (σ : sf_S) : Option (Int32 × sf_S) := match av with
  | [.ref q, .int x1] => (match sf_rv [0, 59] q with | true => dW_count q x1 σ | false => none)
  | _ => none
theorem kW_count (l : Launch) (ns : Nat) : so_C l (sf_layW ns) yX11_count cX11_count 2 (some .int) (sf_rm 1 100) (fun av σ => (gW_count av σ).map sf_vI) := so_lift (kX11_count l) ns (by
  intro av σ r h
  obtain ⟨u, hu, rfl⟩ := Option.map_eq_some_iff.mp h
  unfold gW_count at hu
  split at hu
  · rename_i q x1
    split at hu
    · rename_i hq
      have hq : q = 0 ∨ q = 59 := by simpa using sf_rv_mem hq
      obtain ⟨w, hw, rfl⟩ := sf_on_inv hu
      refine ⟨q, [.int x1], sf_vI w, rfl, hq, by simp, ?_, rfl, by simp [sf_vI]⟩
      show (dX11_count x1 (sf_sl q σ)).map sf_vI = _
      rw [hw]; rfl
    · cases hu
  · cases hu)
noncomputable def dW_failure (q : Nat) (x1 : Int32) (σ : sf_S) : Option (Int32 × sf_S) := sf_on q (dX11_failure x1) σ
noncomputable abbrev gW_failure (av : List Value) (σ : sf_S) : Option (Int32 × sf_S) := match av with
  | [.ref q, .int x1] => (match sf_rv [0, 59] q with | true => dW_failure q x1 σ | false => none)
  | _ => none
theorem kW_failure (l : Launch) (ns : Nat) : so_C l (sf_layW ns) yX11_failure cX11_failure 2 (some .int) (sf_rm 1 100) (fun av σ => (gW_failure av σ).map sf_vI) := so_lift (kX11_failure l) ns (by
  intro av σ r h
  obtain ⟨u, hu, rfl⟩ := Option.map_eq_some_iff.mp h
  unfold gW_failure at hu
  split at hu
  · rename_i q x1
    split at hu
    · rename_i hq
      have hq : q = 0 ∨ q = 59 := by simpa using sf_rv_mem hq
      obtain ⟨w, hw, rfl⟩ := sf_on_inv hu
      refine ⟨q, [.int x1], sf_vI w, rfl, hq, by simp, ?_, rfl, by simp [sf_vI]⟩
      show (dX11_failure x1 (sf_sl q σ)).map sf_vI = _
      rw [hw]; rfl
    · cases hu
  · cases hu)
noncomputable def dW_fault (q : Nat) (σ : sf_S) : Option (Int32 × sf_S) := sf_on q (dX11_fault) σ
noncomputable abbrev gW_fault (av : List Value) (σ : sf_S) : Option (Int32 × sf_S) := match av with
  | [.ref q] => (match sf_rv [0, 59] q with | true => dW_fault q σ | false => none)
  | _ => none
theorem kW_fault (l : Launch) (ns : Nat) : so_C l (sf_layW ns) yX11_fault cX11_fault 1 (some .int) (sf_rm 6 210) (fun av σ => (gW_fault av σ).map sf_vI) := so_lift (kX11_fault l) ns (by
  intro av σ r h
  obtain ⟨u, hu, rfl⟩ := Option.map_eq_some_iff.mp h
  unfold gW_fault at hu
  split at hu
  · rename_i q 
    split at hu
    · rename_i hq
      have hq : q = 0 ∨ q = 59 := by simpa using sf_rv_mem hq
      obtain ⟨w, hw, rfl⟩ := sf_on_inv hu
      refine ⟨q, [], sf_vI w, rfl, hq, by simp, ?_, rfl, by simp [sf_vI]⟩
      show (dX11_fault (sf_sl q σ)).map sf_vI = _
      rw [hw]; rfl
    · cases hu
  · cases hu)
noncomputable def dW_lay (q : Nat) (x1 : Int32) (x2 : Int32) (x3 : Int32) (x4 : Int32) (σ : sf_S) : Option (Int32 × sf_S) := sf_on q (dX11_lay x1 x2 x3 x4) σ
noncomputable abbrev gW_lay (av : List Value) (σ : sf_S) : Option (Int32 × sf_S) := match av with
  | [.ref q, .int x1, .int x2, .int x3, .int x4] => (match sf_rv [0, 59] q with | true => dW_lay q x1 x2 x3 x4 σ | false => none)
  | _ => none
theorem kW_lay (l : Launch) (ns : Nat) : so_C l (sf_layW ns) yX11_lay cX11_lay 6 (some .int) (sf_rm 3 145) (fun av σ => (gW_lay av σ).map sf_vI) := so_lift (kX11_lay l) ns (by
  intro av σ r h
  obtain ⟨u, hu, rfl⟩ := Option.map_eq_some_iff.mp h
  unfold gW_lay at hu
  split at hu
  · rename_i q x1 x2 x3 x4
    split at hu
    · rename_i hq
      have hq : q = 0 ∨ q = 59 := by simpa using sf_rv_mem hq
      obtain ⟨w, hw, rfl⟩ := sf_on_inv hu
      refine ⟨q, [.int x1, .int x2, .int x3, .int x4], sf_vI w, rfl, hq, by simp, ?_, rfl, by simp [sf_vI]⟩
      show (dX11_lay x1 x2 x3 x4 (sf_sl q σ)).map sf_vI = _
      rw [hw]; rfl
    · cases hu
  · cases hu)
noncomputable def dW_node (q : Nat) (x1 : Int32) (x2 : Int32) (σ : sf_S) : Option (Int32 × sf_S) := sf_on q (dX11_node x1 x2) σ
noncomputable abbrev gW_node (av : List Value) (σ : sf_S) : Option (Int32 × sf_S) := match av with
  | [.ref q, .int x1, .int x2] => (match sf_rv [0, 59] q with | true => dW_node q x1 x2 σ | false => none)
  | _ => none
theorem kW_node (l : Launch) (ns : Nat) : so_C l (sf_layW ns) yX11_node cX11_node 3 (some .int) (sf_rm 2 121) (fun av σ => (gW_node av σ).map sf_vI) := so_lift (kX11_node l) ns (by
  intro av σ r h
  obtain ⟨u, hu, rfl⟩ := Option.map_eq_some_iff.mp h
  unfold gW_node at hu
  split at hu
  · rename_i q x1 x2
    split at hu
    · rename_i hq
      have hq : q = 0 ∨ q = 59 := by simpa using sf_rv_mem hq
      obtain ⟨w, hw, rfl⟩ := sf_on_inv hu
      refine ⟨q, [.int x1, .int x2], sf_vI w, rfl, hq, by simp, ?_, rfl, by simp [sf_vI]⟩
      show (dX11_node x1 x2 (sf_sl q σ)).map sf_vI = _
      rw [hw]; rfl
    · cases hu
  · cases hu)
noncomputable def dW_plan (q : Nat) (σ : sf_S) : Option (Int32 × sf_S) := sf_on q (dX11_plan) σ
noncomputable abbrev gW_plan (av : List Value) (σ : sf_S) : Option (Int32 × sf_S) := match av with
  | [.ref q] => (match sf_rv [0, 59] q with | true => dW_plan q σ | false => none)
  | _ => none
theorem kW_plan (l : Launch) (ns : Nat) : so_C l (sf_layW ns) yX11_plan cX11_plan 2 (some .int) (sf_rm 6 210) (fun av σ => (gW_plan av σ).map sf_vI) := so_lift (kX11_plan l) ns (by
  intro av σ r h
  obtain ⟨u, hu, rfl⟩ := Option.map_eq_some_iff.mp h
  unfold gW_plan at hu
  split at hu
  · rename_i q 
    split at hu
    · rename_i hq
      have hq : q = 0 ∨ q = 59 := by simpa using sf_rv_mem hq
      obtain ⟨w, hw, rfl⟩ := sf_on_inv hu
      refine ⟨q, [], sf_vI w, rfl, hq, by simp, ?_, rfl, by simp [sf_vI]⟩
      show (dX11_plan (sf_sl q σ)).map sf_vI = _
      rw [hw]; rfl
    · cases hu
  · cases hu)
noncomputable def dW_result (q : Nat) (x1 : Int32) (σ : sf_S) : Option (Int64 × sf_S) := sf_on q (dX11_result x1) σ
noncomputable abbrev gW_result (av : List Value) (σ : sf_S) : Option (Int64 × sf_S) := match av with
  | [.ref q, .int x1] => (match sf_rv [0, 59] q with | true => dW_result q x1 σ | false => none)
  | _ => none
theorem kW_result (l : Launch) (ns : Nat) : so_C l (sf_layW ns) yX11_result cX11_result 2 (some .long) (sf_rm 1 100) (fun av σ => (gW_result av σ).map sf_vL) := so_lift (kX11_result l) ns (by
  intro av σ r h
  obtain ⟨u, hu, rfl⟩ := Option.map_eq_some_iff.mp h
  unfold gW_result at hu
  split at hu
  · rename_i q x1
    split at hu
    · rename_i hq
      have hq : q = 0 ∨ q = 59 := by simpa using sf_rv_mem hq
      obtain ⟨w, hw, rfl⟩ := sf_on_inv hu
      refine ⟨q, [.int x1], sf_vL w, rfl, hq, by simp, ?_, rfl, by simp [sf_vL]⟩
      show (dX11_result x1 (sf_sl q σ)).map sf_vL = _
      rw [hw]; rfl
    · cases hu
  · cases hu)
noncomputable def dW_run (q : Nat) (x1 : Int32) (x2 : Int32) (σ : sf_S) : Option (Int32 × sf_S) := sf_on q (dX11_run x1 x2) σ
noncomputable abbrev gW_run (av : List Value) (σ : sf_S) : Option (Int32 × sf_S) := match av with
  | [.ref q, .int x1, .int x2] => (match sf_rv [0, 59] q with | true => dW_run q x1 x2 σ | false => none)
  | _ => none
theorem kW_run (l : Launch) (ns : Nat) : so_C l (sf_layW ns) yX11_run cX11_run 3 (some .int) (sf_rm 484 17760) (fun av σ => (gW_run av σ).map sf_vI) := so_lift (kX11_run l) ns (by
  intro av σ r h
  obtain ⟨u, hu, rfl⟩ := Option.map_eq_some_iff.mp h
  unfold gW_run at hu
  split at hu
  · rename_i q x1 x2
    split at hu
    · rename_i hq
      have hq : q = 0 ∨ q = 59 := by simpa using sf_rv_mem hq
      obtain ⟨w, hw, rfl⟩ := sf_on_inv hu
      refine ⟨q, [.int x1, .int x2], sf_vI w, rfl, hq, by simp, ?_, rfl, by simp [sf_vI]⟩
      show (dX11_run x1 x2 (sf_sl q σ)).map sf_vI = _
      rw [hw]; rfl
    · cases hu
  · cases hu)
noncomputable def dW_saves (q : Nat) (x1 : Int32) (σ : sf_S) : Option (Int32 × sf_S) := sf_on q (dX11_saves x1) σ
noncomputable abbrev gW_saves (av : List Value) (σ : sf_S) : Option (Int32 × sf_S) := match av with
  | [.ref q, .int x1] => (match sf_rv [0, 59] q with | true => dW_saves q x1 σ | false => none)
  | _ => none
theorem kW_saves (l : Launch) (ns : Nat) : so_C l (sf_layW ns) yX11_saves cX11_saves 3 (some .int) (sf_rm 442 16752) (fun av σ => (gW_saves av σ).map sf_vI) := so_lift (kX11_saves l) ns (by
  intro av σ r h
  obtain ⟨u, hu, rfl⟩ := Option.map_eq_some_iff.mp h
  unfold gW_saves at hu
  split at hu
  · rename_i q x1
    split at hu
    · rename_i hq
      have hq : q = 0 ∨ q = 59 := by simpa using sf_rv_mem hq
      obtain ⟨w, hw, rfl⟩ := sf_on_inv hu
      refine ⟨q, [.int x1], sf_vI w, rfl, hq, by simp, ?_, rfl, by simp [sf_vI]⟩
      show (dX11_saves x1 (sf_sl q σ)).map sf_vI = _
      rw [hw]; rfl
    · cases hu
  · cases hu)
noncomputable def dW_sheet (q : Nat) (x1 : Int32) (x2 : Int32) (x3 : Int32) (σ : sf_S) : Option (Int32 × sf_S) := sf_on q (dX11_sheet x1 x2 x3) σ
noncomputable abbrev gW_sheet (av : List Value) (σ : sf_S) : Option (Int32 × sf_S) := match av with
  | [.ref q, .int x1, .int x2, .int x3] => (match sf_rv [0, 59] q with | true => dW_sheet q x1 x2 x3 σ | false => none)
  | _ => none
theorem kW_sheet (l : Launch) (ns : Nat) : so_C l (sf_layW ns) yX11_sheet cX11_sheet 4 (some .int) (sf_rm 2 124) (fun av σ => (gW_sheet av σ).map sf_vI) := so_lift (kX11_sheet l) ns (by
  intro av σ r h
  obtain ⟨u, hu, rfl⟩ := Option.map_eq_some_iff.mp h
  unfold gW_sheet at hu
  split at hu
  · rename_i q x1 x2 x3
    split at hu
    · rename_i hq
      have hq : q = 0 ∨ q = 59 := by simpa using sf_rv_mem hq
      obtain ⟨w, hw, rfl⟩ := sf_on_inv hu
      refine ⟨q, [.int x1, .int x2, .int x3], sf_vI w, rfl, hq, by simp, ?_, rfl, by simp [sf_vI]⟩
      show (dX11_sheet x1 x2 x3 (sf_sl q σ)).map sf_vI = _
      rw [hw]; rfl
    · cases hu
  · cases hu)
noncomputable def dW_text (q : Nat) (x1 : Int32) (σ : sf_S) : Option (Int32 × sf_S) := sf_on q (dX11_text x1) σ
noncomputable abbrev gW_text (av : List Value) (σ : sf_S) : Option (Int32 × sf_S) := match av with
  | [.ref q, .int x1] => (match sf_rv [0, 59] q with | true => dW_text q x1 σ | false => none)
  | _ => none
theorem kW_text (l : Launch) (ns : Nat) : so_C l (sf_layW ns) yX11_text cX11_text 2 (some .int) (sf_rm 1 100) (fun av σ => (gW_text av σ).map sf_vI) := so_lift (kX11_text l) ns (by
  intro av σ r h
  obtain ⟨u, hu, rfl⟩ := Option.map_eq_some_iff.mp h
  unfold gW_text at hu
  split at hu
  · rename_i q x1
    split at hu
    · rename_i hq
      have hq : q = 0 ∨ q = 59 := by simpa using sf_rv_mem hq
      obtain ⟨w, hw, rfl⟩ := sf_on_inv hu
      refine ⟨q, [.int x1], sf_vI w, rfl, hq, by simp, ?_, rfl, by simp [sf_vI]⟩
      show (dX11_text x1 (sf_sl q σ)).map sf_vI = _
      rw [hw]; rfl
    · cases hu
  · cases hu)
noncomputable def dW_tidy (q : Nat) (x1 : Int32) (σ : sf_S) : Option (Int32 × sf_S) := sf_on q (dX11_tidy x1) σ
noncomputable abbrev gW_tidy (av : List Value) (σ : sf_S) : Option (Int32 × sf_S) := match av with
  | [.ref q, .int x1] => (match sf_rv [0, 59] q with | true => dW_tidy q x1 σ | false => none)
  | _ => none
theorem kW_tidy (l : Launch) (ns : Nat) : so_C l (sf_layW ns) yX11_tidy cX11_tidy 2 (some .int) (sf_rm 6 217) (fun av σ => (gW_tidy av σ).map sf_vI) := so_lift (kX11_tidy l) ns (by
  intro av σ r h
  obtain ⟨u, hu, rfl⟩ := Option.map_eq_some_iff.mp h
  unfold gW_tidy at hu
  split at hu
  · rename_i q x1
    split at hu
    · rename_i hq
      have hq : q = 0 ∨ q = 59 := by simpa using sf_rv_mem hq
      obtain ⟨w, hw, rfl⟩ := sf_on_inv hu
      refine ⟨q, [.int x1], sf_vI w, rfl, hq, by simp, ?_, rfl, by simp [sf_vI]⟩
      show (dX11_tidy x1 (sf_sl q σ)).map sf_vI = _
      rw [hw]; rfl
    · cases hu
  · cases hu)
noncomputable def dW_told (q : Nat) (x1 : Int32) (σ : sf_S) : Option (Int32 × sf_S) := sf_on q (dX11_told x1) σ
noncomputable abbrev gW_told (av : List Value) (σ : sf_S) : Option (Int32 × sf_S) := match av with
  | [.ref q, .int x1] => (match sf_rv [0, 59] q with | true => dW_told q x1 σ | false => none)
  | _ => none
theorem kW_told (l : Launch) (ns : Nat) : so_C l (sf_layW ns) yX11_told cX11_told 2 (some .int) (sf_rm 1 100) (fun av σ => (gW_told av σ).map sf_vI) := so_lift (kX11_told l) ns (by
  intro av σ r h
  obtain ⟨u, hu, rfl⟩ := Option.map_eq_some_iff.mp h
  unfold gW_told at hu
  split at hu
  · rename_i q x1
    split at hu
    · rename_i hq
      have hq : q = 0 ∨ q = 59 := by simpa using sf_rv_mem hq
      obtain ⟨w, hw, rfl⟩ := sf_on_inv hu
      refine ⟨q, [.int x1], sf_vI w, rfl, hq, by simp, ?_, rfl, by simp [sf_vI]⟩
      show (dX11_told x1 (sf_sl q σ)).map sf_vI = _
      rw [hw]; rfl
    · cases hu
  · cases hu)
noncomputable def dW_type (q : Nat) (x1 : Int32) (σ : sf_S) : Option (Int32 × sf_S) := sf_on q (dX11_type x1) σ
noncomputable abbrev gW_type (av : List Value) (σ : sf_S) : Option (Int32 × sf_S) := match av with
  | [.ref q, .int x1] => (match sf_rv [0, 59] q with | true => dW_type q x1 σ | false => none)
  | _ => none
theorem kW_type (l : Launch) (ns : Nat) : so_C l (sf_layW ns) yX11_type cX11_type 2 (some .int) (sf_rm 2 121) (fun av σ => (gW_type av σ).map sf_vI) := so_lift (kX11_type l) ns (by
  intro av σ r h
  obtain ⟨u, hu, rfl⟩ := Option.map_eq_some_iff.mp h
  unfold gW_type at hu
  split at hu
  · rename_i q x1
    split at hu
    · rename_i hq
      have hq : q = 0 ∨ q = 59 := by simpa using sf_rv_mem hq
      obtain ⟨w, hw, rfl⟩ := sf_on_inv hu
      refine ⟨q, [.int x1], sf_vI w, rfl, hq, by simp, ?_, rfl, by simp [sf_vI]⟩
      show (dX11_type x1 (sf_sl q σ)).map sf_vI = _
      rw [hw]; rfl
    · cases hu
  · cases hu)
noncomputable def dW_wipe (q : Nat) (σ : sf_S) : Option (Int32 × sf_S) := sf_on q (dX11_wipe) σ
noncomputable abbrev gW_wipe (av : List Value) (σ : sf_S) : Option (Int32 × sf_S) := match av with
  | [.ref q] => (match sf_rv [0, 59] q with | true => dW_wipe q σ | false => none)
  | _ => none
theorem kW_wipe (l : Launch) (ns : Nat) : so_C l (sf_layW ns) yX11_wipe cX11_wipe 2 (some .int) (sf_rm 1 100) (fun av σ => (gW_wipe av σ).map sf_vI) := so_lift (kX11_wipe l) ns (by
  intro av σ r h
  obtain ⟨u, hu, rfl⟩ := Option.map_eq_some_iff.mp h
  unfold gW_wipe at hu
  split at hu
  · rename_i q 
    split at hu
    · rename_i hq
      have hq : q = 0 ∨ q = 59 := by simpa using sf_rv_mem hq
      obtain ⟨w, hw, rfl⟩ := sf_on_inv hu
      refine ⟨q, [], sf_vI w, rfl, hq, by simp, ?_, rfl, by simp [sf_vI]⟩
      show (dX11_wipe (sf_sl q σ)).map sf_vI = _
      rw [hw]; rfl
    · cases hu
  · cases hu)
noncomputable def dW_written (q : Nat) (x1 : Int32) (x2 : Int32) (σ : sf_S) : Option (Int64 × sf_S) := sf_on q (dX11_written x1 x2) σ
noncomputable abbrev gW_written (av : List Value) (σ : sf_S) : Option (Int64 × sf_S) := match av with
  | [.ref q, .int x1, .int x2] => (match sf_rv [0, 59] q with | true => dW_written q x1 x2 σ | false => none)
  | _ => none
theorem kW_written (l : Launch) (ns : Nat) : so_C l (sf_layW ns) yX11_written cX11_written 3 (some .long) (sf_rm 2 120) (fun av σ => (gW_written av σ).map sf_vL) := so_lift (kX11_written l) ns (by
  intro av σ r h
  obtain ⟨u, hu, rfl⟩ := Option.map_eq_some_iff.mp h
  unfold gW_written at hu
  split at hu
  · rename_i q x1 x2
    split at hu
    · rename_i hq
      have hq : q = 0 ∨ q = 59 := by simpa using sf_rv_mem hq
      obtain ⟨w, hw, rfl⟩ := sf_on_inv hu
      refine ⟨q, [.int x1, .int x2], sf_vL w, rfl, hq, by simp, ?_, rfl, by simp [sf_vL]⟩
      show (dX11_written x1 x2 (sf_sl q σ)).map sf_vL = _
      rw [hw]; rfl
    · cases hu
  · cases hu)
