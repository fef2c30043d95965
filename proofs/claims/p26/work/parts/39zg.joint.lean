/-! o and p -/
theorem sf_pt_id {q : Nat} {σ : sf_S} : sf_pt q σ (sf_sl q σ) = σ := by
  funext a b
  unfold sf_pt sf_sl
  split
  · rw [show a - q + q = a by omega]
  · rfl
theorem tq_rd {α : Type} {f : sf_S → Option (α × sf_S)} {r : Nat} {v : α} {σ : sf_S} (h : f (sf_sl r σ) = some (v, sf_sl r σ)) : sf_on r f σ = some (v, σ) := by
  unfold sf_on
  rw [h]
  simp only [Option.map_some, sf_pt_id]
theorem tq_on {α : Type} {f : sf_S → Option (α × sf_S)} {r : Nat} {v : α} {σ τ : sf_S} (h : f (sf_sl r σ) = some (v, τ)) : sf_on r f σ = some (v, sf_pt r σ τ) := by
  unfold sf_on
  rw [h]
  rfl
theorem tq_in {r : Nat} {σ τ : sf_S} {a b : Nat} (ha : a < 59) : sf_sl r (sf_pt r σ τ) a b = τ a b := by
  unfold sf_sl sf_pt
  rw [if_pos (by omega), Nat.add_sub_cancel]
theorem tq_out {r r' : Nat} {σ τ : sf_S} {a b : Nat} (ha : a < 59) (hr : r + 59 ≤ r' ∨ r' + 59 ≤ r) : sf_sl r' (sf_pt r σ τ) a b = sf_sl r' σ a b := by
  unfold sf_sl sf_pt
  rw [if_neg (by omega)]
theorem tq_script {r : Nat} {σ τ : sf_S} {b : Nat} (hr : r + 59 ≤ 118) : sf_pt r σ τ 118 b = σ 118 b := by
  unfold sf_pt
  rw [if_neg (by omega)]
/-! what is read off -/
theorem tq_count0 {r : Nat} {σ : sf_S} : dW_count r 0 σ = some (sf_sl r σ 1 4, σ) := tq_rd (by unfold dX11_count; rw [if_pos (by decide)])
theorem tq_count2 {r : Nat} {σ : sf_S} : dW_count r 2 σ = some (sf_sl r σ 19 1, σ) := tq_rd (by unfold dX11_count; rw [if_neg (by decide), if_neg (by decide), if_pos (by decide)])
theorem tq_told0 {r : Nat} {σ : sf_S} : dW_told r 0 σ = some (sf_sl r σ 19 2, σ) := tq_rd (by unfold dX11_told; rw [if_pos (by decide)])
theorem tq_told1 {r : Nat} {σ : sf_S} : dW_told r 1 σ = some (sf_sl r σ 19 3, σ) := tq_rd (by unfold dX11_told; rw [if_neg (by decide), if_pos (by decide)])
theorem tq_told3 {r : Nat} {σ : sf_S} : dW_told r 3 σ = some (sf_sl r σ 19 9, σ) := tq_rd (by unfold dX11_told; rw [if_neg (by decide), if_neg (by decide), if_neg (by decide), if_pos (by decide)])
theorem tq_fail0 {r : Nat} {σ : sf_S} : dW_failure r 0 σ = some (sf_sl r σ 19 5, σ) := tq_rd (by unfold dX11_failure; rw [if_neg (by decide), if_pos (by decide), if_neg (by decide)])
theorem tq_fail1 {r : Nat} {σ : sf_S} : dW_failure r 1 σ = some (sf_sl r σ 19 6, σ) := tq_rd (by unfold dX11_failure; rw [if_neg (by decide), if_pos (by decide), if_pos (by decide)])
theorem tq_result {r i n : Nat} {v : Int32} {σ : sf_S} (h1 : sf_sl r σ 19 1 = nI n) (hn : n ≤ 40) (hi : i < n) (hv : sf_sl r σ 20 i = v) : dW_result r (nI i) σ = some (v.toInt64, σ) := tq_rd (by
  unfold dX11_result
  rw [if_neg (nI_pos (by omega)), h1, if_neg (nI_ge hi (by omega)), if_pos (sc_inI (by omega) (by omega)), sc_cl (by omega), hv])
theorem tq_kept {σ : sf_S} {n : Nat} (h : σ 19 9 = nI n) (hn : n ≤ 100000) : dX6_kept 19 σ = some (nI (min 40 n), σ) := by
  have e : (if nI 40 < nI n then nI 40 else nI n) = nI (min 40 n) := by
    by_cases h4 : 40 < n
    · rw [if_pos (nI_lt h4 (by omega))]; congr 1; omega
    · rw [if_neg (nI_nlt (by omega) (by omega))]; congr 1; omega
  unfold dX6_kept
  simp only [h, show (40 : Int32) = nI 40 from by decide +kernel, e]
theorem tq_written {r i n : Nat} {σ : sf_S} (h9 : sf_sl r σ 19 9 = nI n) (hn : n ≤ 100000) (hi : i < n) (hi2 : i < 40) : dW_written r (nI i) 0 σ = some ((sf_sl r σ 21 i).toInt64, σ) ∧ dW_written r (nI i) 1 σ = some ((sf_sl r σ 22 i).toInt64, σ) := by
  constructor
  · refine tq_rd ?_
    unfold dX11_written
    rw [if_neg (nI_pos (by omega)), tq_kept h9 hn]
    simp only [Option.bind_some]
    rw [if_neg (nI_ge (by omega) (by omega)), if_neg (by decide), if_pos (by decide), if_neg (by decide), if_pos (sc_inI (by omega) (by omega)), sc_cl (by omega)]
  · refine tq_rd ?_
    unfold dX11_written
    rw [if_neg (nI_pos (by omega)), tq_kept h9 hn]
    simp only [Option.bind_some]
    rw [if_neg (nI_ge (by omega) (by omega)), if_neg (by decide), if_pos (by decide), if_pos (by decide), if_pos (sc_inI (by omega) (by omega)), sc_cl (by omega)]
/-- all but what was drawn -/
def tr_rq (R : tv_R) (σ' : sf_S) : Prop := σ' 19 1 = nI R.1.length ∧ (∀ i v, R.1[i]? = some v → σ' 20 i = v) ∧ tr_fo 19 σ' R.2.2.2 ∧ tr_N 19 R.2.1 σ'
theorem tr_res.rq {R : tv_R} {σ : sf_S} (h : tr_res 19 R σ) : tr_rq R σ := ⟨h.1, h.2.1, h.2.2.2.1, h.2.2.2.2.1⟩
/-- the runs of both are the same -/
theorem tq_cmp (x : Int64) : lg_cmp x x = 0 := by
  have h1 := lg_cmp_ge (x := x) (y := x)
  have h2 := lg_cmp_le (x := x) (y := x)
  have e : x ≤ x := Int64.le_refl x
  have h3 := h1.mpr e
  have h4 := h2.mpr e
  rw [Int32.le_iff_toInt_le] at h3 h4
  exact Int32.toInt_inj.mp (by omega)
theorem tq_same90 {R : tv_R} {ns : Nat} {σ : sf_S} (h0 : tr_rq R (sf_sl 0 σ)) (h1 : tr_rq R (sf_sl 59 σ)) : dL_same_90 ns σ = some (1, σ) := by
  obtain ⟨a1, a2, a4, a5⟩ := h0
  obtain ⟨b1, b2, b4, b5⟩ := h1
  have hf : sf_sl 0 σ 19 5 = sf_sl 59 σ 19 5 ∧ sf_sl 0 σ 19 6 = sf_sl 59 σ 19 6 := by
    cases e : R.2.2.2 with
    | none => rw [e] at a4 b4; exact ⟨a4.1.trans b4.1.symm, a4.2.trans b4.2.symm⟩
    | some z => rw [e] at a4 b4; exact ⟨a4.1.trans b4.1.symm, a4.2.trans b4.2.symm⟩
  unfold dL_same_90
  rw [tq_count2]
  simp only [Option.bind_some]
  rw [tq_count2]
  simp only [Option.bind_some]
  rw [if_neg (by rw [a1, b1]; simp), tq_told3]
  simp only [Option.bind_some]
  rw [tq_told3]
  simp only [Option.bind_some]
  rw [if_neg (by rw [a5.1, b5.1]; simp), tq_fail0]
  simp only [Option.bind_some]
  rw [tq_fail0]
  simp only [Option.bind_some]
  rw [if_neg (by rw [hf.1]; simp), tq_fail1]
  simp only [Option.bind_some]
  rw [tq_fail1]
  simp only [Option.bind_some]
  rw [if_neg (by rw [hf.2]; simp)]
theorem tq_same35 {R : tv_R} {ns : Nat} {σ : sf_S} (h0 : tr_rq R (sf_sl 0 σ)) (h1 : tr_rq R (sf_sl 59 σ)) (hn : R.2.1.length ≤ 100000) : ∀ (m i fuel : Nat), i + m = min 40 R.2.1.length → m < fuel → dL_same_35 ns fuel (nI i) σ = some (1, σ) := by
  intro m
  induction m with
  | zero =>
    intro i fuel hi hf
    obtain ⟨f, rfl⟩ : ∃ f, fuel = f + 1 := ⟨fuel - 1, by omega⟩
    simp only [dL_same_35]
    rw [show (40 : Int32) = nI 40 from by decide +kernel]
    by_cases h4 : 40 ≤ i
    · rw [if_pos (nI_le h4 (by omega)), tq_same90 h0 h1]
    · rw [if_neg (nI_ge (by omega) (by omega)), tq_told3]
      simp only [Option.bind_some]
      rw [h0.2.2.2.1, if_pos (nI_le (by omega) (by omega)), tq_same90 h0 h1]
  | succ m ih =>
    intro i fuel hi hf
    obtain ⟨f, rfl⟩ : ∃ f, fuel = f + 1 := ⟨fuel - 1, by omega⟩
    simp only [dL_same_35]
    rw [show (40 : Int32) = nI 40 from by decide +kernel, if_neg (nI_ge (by omega) (by omega)), tq_told3]
    simp only [Option.bind_some]
    have hlt : i < R.2.1.length := by omega
    have hv : R.2.1[i]? = some (R.2.1[i].1, R.2.1[i].2) := List.getElem?_eq_getElem hlt
    obtain ⟨c1, c2⟩ := h0.2.2.2.2 i _ _ hv (by omega)
    obtain ⟨d1, d2⟩ := h1.2.2.2.2 i _ _ hv (by omega)
    have w0 := tq_written (r := 0) (σ := σ) h0.2.2.2.1 hn hlt (by omega)
    have w1 := tq_written (r := 59) (σ := σ) h1.2.2.2.1 hn hlt (by omega)
    rw [h0.2.2.2.1, if_neg (nI_ge (by omega) (by omega)), w0.1]
    simp only [Option.bind_some]
    rw [w1.1]
    simp only [Option.bind_some]
    rw [show sf_sl 0 σ 21 i = sf_sl 59 σ 21 i from c1.trans d1.symm, tq_cmp, if_neg (by simp), w0.2]
    simp only [Option.bind_some]
    rw [w1.2]
    simp only [Option.bind_some]
    rw [show sf_sl 0 σ 22 i = sf_sl 59 σ 22 i from c2.trans d2.symm, tq_cmp, if_pos rfl, nI_1]
    exact ih (i + 1) f (by omega) (by omega)
theorem tq_sameQ {R : tv_R} {ns : Nat} {σ : sf_S} (h0 : tr_rq R (sf_sl 0 σ)) (h1 : tr_rq R (sf_sl 59 σ)) (hl : R.1.length ≤ 40) (hn : R.2.1.length ≤ 100000) : dL_same ns σ = some (1, σ) := by
  have hF := sf_F_le
  have go : ∀ (m i fuel : Nat), i + m = R.1.length → m < fuel → dL_same_2 ns fuel (nI i) σ = some (1, σ) := by
    intro m
    induction m with
    | zero =>
      intro i fuel hi hf
      obtain ⟨f, rfl⟩ : ∃ f, fuel = f + 1 := ⟨fuel - 1, by omega⟩
      simp only [dL_same_2]
      rw [tq_count2]
      simp only [Option.bind_some]
      rw [h0.1, if_pos (nI_le (by omega) (by omega)), sc_0, tq_same35 h0 h1 hn (min 40 R.2.1.length) 0 sf_F (Nat.zero_add _) (by omega)]
    | succ m ih =>
      intro i fuel hi hf
      obtain ⟨f, rfl⟩ : ∃ f, fuel = f + 1 := ⟨fuel - 1, by omega⟩
      simp only [dL_same_2]
      rw [tq_count2]
      simp only [Option.bind_some]
      have hlt : i < R.1.length := by omega
      have hv : R.1[i]? = some R.1[i] := List.getElem?_eq_getElem hlt
      rw [h0.1, if_neg (nI_ge (by omega) (by omega)), tq_result h0.1 hl hlt (h0.2.1 i _ hv)]
      simp only [Option.bind_some]
      rw [tq_result h1.1 hl hlt (h1.2.1 i _ hv)]
      simp only [Option.bind_some]
      rw [tq_cmp, if_pos rfl, nI_1]
      exact ih (i + 1) f (by omega) (by omega)
  unfold dL_same
  rw [sc_0]
  exact go R.1.length 0 sf_F (Nat.zero_add _) (by omega)
theorem tq_same {R : tv_R} {ns : Nat} {σ : sf_S} (h0 : tr_res 19 R (sf_sl 0 σ)) (h1 : tr_res 19 R (sf_sl 59 σ)) (hl : R.1.length ≤ 40) (hn : R.2.1.length ≤ 100000) : dL_same ns σ = some (1, σ) := tq_sameQ h0.rq h1.rq hl hn
/-- .. where they are the same in all but what was drawn -/
theorem tq_same2 {R R' : tv_R} {ns : Nat} {σ : sf_S} (h0 : tr_res 19 R (sf_sl 0 σ)) (h1 : tr_res 19 R' (sf_sl 59 σ)) (e1 : R'.1 = R.1) (e2 : R'.2.1 = R.2.1) (e3 : R'.2.2.2 = R.2.2.2) (hl : R.1.length ≤ 40) (hn : R.2.1.length ≤ 100000) : dL_same ns σ = some (1, σ) := by
  refine tq_sameQ h0.rq ?_ hl hn
  have h := h1.rq
  unfold tr_rq at h ⊢
  rw [e1, e2, e3] at h
  exact h
