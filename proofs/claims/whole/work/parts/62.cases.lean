/-! the law's cases (by wip/tools/law.py) -/
def sl_prI (I : sf_S → sf_S → Prop) (x y : Option (Int32 × sf_S)) : Prop := ∃ a σ τ, x = some (a, σ) ∧ y = some (a, τ) ∧ I σ τ
def sl_prJ (I : sf_S → sf_S → Prop) (x y : Option (Int64 × sf_S)) : Prop := ∃ a σ τ, x = some (a, σ) ∧ y = some (a, τ) ∧ I σ τ
/-- what the pure part has to show: each call, from related states, answers the same and leaves related states -/
def sl_Good (Inv : Nat → sf_S → sf_S → Prop) : Prop := ∀ n σ τ, n < 512 → Inv n σ τ → Inv (n + 1) σ τ
  ∧ (∀ x1 : Int32, sl_prI (Inv (n + 1)) (dX11_type x1 σ) (dX12_type x1 τ))
  ∧ (sl_prI (Inv (n + 1)) (dX11_wipe σ) (dX12_wipe τ))
  ∧ (sl_prI (Inv (n + 1)) (dX11_fault σ) (dX12_fault τ))
  ∧ (sl_prI (Inv (n + 1)) (dX11_plan σ) (dX12_plan τ))
  ∧ (∀ x1 x2 : Int32, sl_prI (Inv (n + 1)) (dX11_node x1 x2 σ) (dX12_node x1 x2 τ))
  ∧ (∀ x1 : Int32, sl_prI (Inv (n + 1)) (dX11_text x1 σ) (dX12_text x1 τ))
  ∧ (∀ x1 : Int32, sl_prI (Inv (n + 1)) (dX11_tidy x1 σ) (dX12_tidy x1 τ))
  ∧ (∀ x1 : Int32, sl_prI (Inv (n + 1)) (dX11_rules x1 σ) (dX12_rules x1 τ))
  ∧ (∀ x1 : Int32, sl_prI (Inv (n + 1)) (dX11_saves x1 σ) (dX12_saves x1 τ))
  ∧ (∀ x1 x2 : Int32, sl_prI (Inv (n + 1)) (dX11_run x1 x2 σ) (dX12_run x1 x2 τ))
  ∧ (∀ x1 : Int32, sl_prJ (Inv (n + 1)) (dX11_result x1 σ) (dX12_result x1 τ))
  ∧ (∀ x1 : Int32, sl_prJ (Inv (n + 1)) (dX11_fold x1 σ) (dX12_fold x1 τ))
  ∧ (∀ x1 : Int32, sl_prI (Inv (n + 1)) (dX11_failure x1 σ) (dX12_failure x1 τ))
  ∧ (∀ x1 : Int32, sl_prI (Inv (n + 1)) (dX11_told x1 σ) (dX12_told x1 τ))
  ∧ (∀ x1 x2 : Int32, sl_prJ (Inv (n + 1)) (dX11_written x1 x2 σ) (dX12_written x1 x2 τ))
  ∧ (∀ x1 x2 x3 : Int32, sl_prI (Inv (n + 1)) (dX11_sheet x1 x2 x3 σ) (dX12_sheet x1 x2 x3 τ))
  ∧ (∀ x1 : Int32, sl_prI (Inv (n + 1)) (dX11_lose x1 σ) (dX12_lose x1 τ))
  ∧ (∀ x1 x2 x3 x4 : Int32, sl_prI (Inv (n + 1)) (dX11_lay x1 x2 x3 x4 σ) (dX12_lay x1 x2 x3 x4 τ))
  ∧ (∀ x1 x2 x3 : Int32, sl_prI (Inv (n + 1)) (dX11_get x1 x2 x3 σ) (dX12_get x1 x2 x3 τ))
  ∧ (∀ x1 x2 x3 x4 x5 : Int32, sl_prI (Inv (n + 1)) (dX11_copy x1 x2 x3 x4 x5 σ) (dX12_copy x1 x2 x3 x4 x5 τ))
  ∧ (∀ x1 : Int32, sl_prI (Inv (n + 1)) (dX11_write x1 σ) (dX12_write x1 τ))
  ∧ (∀ x1 : Int32, sl_prI (Inv (n + 1)) (dX11_count x1 σ) (dX12_count x1 τ))
  ∧ (sl_prJ (Inv (n + 1)) (dX11_digest σ) (dX12_digest τ))
section SLC
variable {p : Program} {l : Launch} {e : Env} {s : State} {m : MethodId} {args : Array Value} {below : List Frame} {meth : Method} {c : Code} {Q : State → Prop} {D : va_G} {cy : Nat → ClassId} {A : Nat → Prop} {b L : Nat} {xs : Nat → Int32} {aC aM : Nat → Nat}
theorem sl_case_type (h0 : sl_At p s m args c D cy A b L xs) (hA : sl_Ads A aC aM) {n : Nat} (hn : n + 6 ≤ L) {σ τ : sf_S} {I : sf_S → sf_S → Prop} (h : sl_prI I (dX11_type (xs (n + 1)) σ) (dX12_type (xs (n + 1)) τ)) (kk : ∀ σ τ, I σ τ → sl_W p l e s m args below meth c Q A (sl_Z D cy aC aM σ τ) (sl_lv b (aC 0) (aM 0) (Int32.ofNat n)) 773 []) : sl_W p l e s m args below meth c Q A (sl_Z D cy aC aM σ τ) (sl_lv b (aC 0) (aM 0) (Int32.ofNat n)) 140 [] := by
  obtain ⟨a, σ2, τ2, h1, h2, h3⟩ := h
  refine sl_pair h0 hA hn (na := 1) (pc := 140) (by decide +kernel) (by decide +kernel) (by decide +kernel) (by decide +kernel) (by omega) sl_dC_type sl_dM_type (sl_mX11_type l) (sl_mX12_type l) (v := .int a) (w := .int a) (σ2 := σ2) (τ2 := τ2) ?_ ?_ (fun q h => by cases h) (fun q h => by cases h) (show (1 : Nat) ≤ 8 by decide) ?_
  · show (dX11_type (xs (n + 1)) σ).map _ = _
    rw [h1]; rfl
  · show (dX12_type (xs (n + 1)) τ).map _ = _
    rw [h2]; rfl
  · exact sl_cmpI h0 (by decide +kernel : decode code 158 = .ok (.if_icmp .eq 615, 3)) (by decide) (kk _ _ h3)
theorem sl_case_wipe (h0 : sl_At p s m args c D cy A b L xs) (hA : sl_Ads A aC aM) {n : Nat} (hn : n + 6 ≤ L) {σ τ : sf_S} {I : sf_S → sf_S → Prop} (h : sl_prI I (dX11_wipe σ) (dX12_wipe τ)) (kk : ∀ σ τ, I σ τ → sl_W p l e s m args below meth c Q A (sl_Z D cy aC aM σ τ) (sl_lv b (aC 0) (aM 0) (Int32.ofNat n)) 773 []) : sl_W p l e s m args below meth c Q A (sl_Z D cy aC aM σ τ) (sl_lv b (aC 0) (aM 0) (Int32.ofNat n)) 163 [] := by
  obtain ⟨a, σ2, τ2, h1, h2, h3⟩ := h
  refine sl_pair h0 hA hn (na := 0) (pc := 163) (by decide +kernel) (by decide +kernel) (by decide +kernel) (by decide +kernel) (by omega) sl_dC_wipe sl_dM_wipe (sl_mX11_wipe l) (sl_mX12_wipe l) (v := .int a) (w := .int a) (σ2 := σ2) (τ2 := τ2) ?_ ?_ (fun q h => by cases h) (fun q h => by cases h) (show (1 : Nat) ≤ 8 by decide) ?_
  · show (dX11_wipe σ).map _ = _
    rw [h1]; rfl
  · show (dX12_wipe τ).map _ = _
    rw [h2]; rfl
  · exact sl_cmpI h0 (by decide +kernel : decode code 171 = .ok (.if_icmp .eq 602, 3)) (by decide) (kk _ _ h3)
theorem sl_case_fault (h0 : sl_At p s m args c D cy A b L xs) (hA : sl_Ads A aC aM) {n : Nat} (hn : n + 6 ≤ L) {σ τ : sf_S} {I : sf_S → sf_S → Prop} (h : sl_prI I (dX11_fault σ) (dX12_fault τ)) (kk : ∀ σ τ, I σ τ → sl_W p l e s m args below meth c Q A (sl_Z D cy aC aM σ τ) (sl_lv b (aC 0) (aM 0) (Int32.ofNat n)) 773 []) : sl_W p l e s m args below meth c Q A (sl_Z D cy aC aM σ τ) (sl_lv b (aC 0) (aM 0) (Int32.ofNat n)) 176 [] := by
  obtain ⟨a, σ2, τ2, h1, h2, h3⟩ := h
  refine sl_pair h0 hA hn (na := 0) (pc := 176) (by decide +kernel) (by decide +kernel) (by decide +kernel) (by decide +kernel) (by omega) sl_dC_fault sl_dM_fault (sl_mX11_fault l) (sl_mX12_fault l) (v := .int a) (w := .int a) (σ2 := σ2) (τ2 := τ2) ?_ ?_ (fun q h => by cases h) (fun q h => by cases h) (show (1 : Nat) ≤ 8 by decide) ?_
  · show (dX11_fault σ).map _ = _
    rw [h1]; rfl
  · show (dX12_fault τ).map _ = _
    rw [h2]; rfl
  · exact sl_cmpI h0 (by decide +kernel : decode code 184 = .ok (.if_icmp .eq 589, 3)) (by decide) (kk _ _ h3)
theorem sl_case_plan (h0 : sl_At p s m args c D cy A b L xs) (hA : sl_Ads A aC aM) {n : Nat} (hn : n + 6 ≤ L) {σ τ : sf_S} {I : sf_S → sf_S → Prop} (h : sl_prI I (dX11_plan σ) (dX12_plan τ)) (kk : ∀ σ τ, I σ τ → sl_W p l e s m args below meth c Q A (sl_Z D cy aC aM σ τ) (sl_lv b (aC 0) (aM 0) (Int32.ofNat n)) 773 []) : sl_W p l e s m args below meth c Q A (sl_Z D cy aC aM σ τ) (sl_lv b (aC 0) (aM 0) (Int32.ofNat n)) 189 [] := by
  obtain ⟨a, σ2, τ2, h1, h2, h3⟩ := h
  refine sl_pair h0 hA hn (na := 0) (pc := 189) (by decide +kernel) (by decide +kernel) (by decide +kernel) (by decide +kernel) (by omega) sl_dC_plan sl_dM_plan (sl_mX11_plan l) (sl_mX12_plan l) (v := .int a) (w := .int a) (σ2 := σ2) (τ2 := τ2) ?_ ?_ (fun q h => by cases h) (fun q h => by cases h) (show (1 : Nat) ≤ 8 by decide) ?_
  · show (dX11_plan σ).map _ = _
    rw [h1]; rfl
  · show (dX12_plan τ).map _ = _
    rw [h2]; rfl
  · exact sl_cmpI h0 (by decide +kernel : decode code 197 = .ok (.if_icmp .eq 576, 3)) (by decide) (kk _ _ h3)
theorem sl_case_node (h0 : sl_At p s m args c D cy A b L xs) (hA : sl_Ads A aC aM) {n : Nat} (hn : n + 6 ≤ L) {σ τ : sf_S} {I : sf_S → sf_S → Prop} (h : sl_prI I (dX11_node (xs (n + 1)) (xs (n + 2)) σ) (dX12_node (xs (n + 1)) (xs (n + 2)) τ)) (kk : ∀ σ τ, I σ τ → sl_W p l e s m args below meth c Q A (sl_Z D cy aC aM σ τ) (sl_lv b (aC 0) (aM 0) (Int32.ofNat n)) 773 []) : sl_W p l e s m args below meth c Q A (sl_Z D cy aC aM σ τ) (sl_lv b (aC 0) (aM 0) (Int32.ofNat n)) 202 [] := by
  obtain ⟨a, σ2, τ2, h1, h2, h3⟩ := h
  refine sl_pair h0 hA hn (na := 2) (pc := 202) (by decide +kernel) (by decide +kernel) (by decide +kernel) (by decide +kernel) (by omega) sl_dC_node sl_dM_node (sl_mX11_node l) (sl_mX12_node l) (v := .int a) (w := .int a) (σ2 := σ2) (τ2 := τ2) ?_ ?_ (fun q h => by cases h) (fun q h => by cases h) (show (1 : Nat) ≤ 8 by decide) ?_
  · show (dX11_node (xs (n + 1)) (xs (n + 2)) σ).map _ = _
    rw [h1]; rfl
  · show (dX12_node (xs (n + 1)) (xs (n + 2)) τ).map _ = _
    rw [h2]; rfl
  · exact sl_cmpI h0 (by decide +kernel : decode code 230 = .ok (.if_icmp .eq 543, 3)) (by decide) (kk _ _ h3)
theorem sl_case_text (h0 : sl_At p s m args c D cy A b L xs) (hA : sl_Ads A aC aM) {n : Nat} (hn : n + 6 ≤ L) {σ τ : sf_S} {I : sf_S → sf_S → Prop} (h : sl_prI I (dX11_text (xs (n + 1)) σ) (dX12_text (xs (n + 1)) τ)) (kk : ∀ σ τ, I σ τ → sl_W p l e s m args below meth c Q A (sl_Z D cy aC aM σ τ) (sl_lv b (aC 0) (aM 0) (Int32.ofNat n)) 773 []) : sl_W p l e s m args below meth c Q A (sl_Z D cy aC aM σ τ) (sl_lv b (aC 0) (aM 0) (Int32.ofNat n)) 235 [] := by
  obtain ⟨a, σ2, τ2, h1, h2, h3⟩ := h
  refine sl_pair h0 hA hn (na := 1) (pc := 235) (by decide +kernel) (by decide +kernel) (by decide +kernel) (by decide +kernel) (by omega) sl_dC_text sl_dM_text (sl_mX11_text l) (sl_mX12_text l) (v := .int a) (w := .int a) (σ2 := σ2) (τ2 := τ2) ?_ ?_ (fun q h => by cases h) (fun q h => by cases h) (show (1 : Nat) ≤ 8 by decide) ?_
  · show (dX11_text (xs (n + 1)) σ).map _ = _
    rw [h1]; rfl
  · show (dX12_text (xs (n + 1)) τ).map _ = _
    rw [h2]; rfl
  · exact sl_cmpI h0 (by decide +kernel : decode code 253 = .ok (.if_icmp .eq 520, 3)) (by decide) (kk _ _ h3)
theorem sl_case_tidy (h0 : sl_At p s m args c D cy A b L xs) (hA : sl_Ads A aC aM) {n : Nat} (hn : n + 6 ≤ L) {σ τ : sf_S} {I : sf_S → sf_S → Prop} (h : sl_prI I (dX11_tidy (xs (n + 1)) σ) (dX12_tidy (xs (n + 1)) τ)) (kk : ∀ σ τ, I σ τ → sl_W p l e s m args below meth c Q A (sl_Z D cy aC aM σ τ) (sl_lv b (aC 0) (aM 0) (Int32.ofNat n)) 773 []) : sl_W p l e s m args below meth c Q A (sl_Z D cy aC aM σ τ) (sl_lv b (aC 0) (aM 0) (Int32.ofNat n)) 258 [] := by
  obtain ⟨a, σ2, τ2, h1, h2, h3⟩ := h
  refine sl_pair h0 hA hn (na := 1) (pc := 258) (by decide +kernel) (by decide +kernel) (by decide +kernel) (by decide +kernel) (by omega) sl_dC_tidy sl_dM_tidy (sl_mX11_tidy l) (sl_mX12_tidy l) (v := .int a) (w := .int a) (σ2 := σ2) (τ2 := τ2) ?_ ?_ (fun q h => by cases h) (fun q h => by cases h) (show (1 : Nat) ≤ 8 by decide) ?_
  · show (dX11_tidy (xs (n + 1)) σ).map _ = _
    rw [h1]; rfl
  · show (dX12_tidy (xs (n + 1)) τ).map _ = _
    rw [h2]; rfl
  · exact sl_cmpI h0 (by decide +kernel : decode code 276 = .ok (.if_icmp .eq 497, 3)) (by decide) (kk _ _ h3)
theorem sl_case_rules (h0 : sl_At p s m args c D cy A b L xs) (hA : sl_Ads A aC aM) {n : Nat} (hn : n + 6 ≤ L) {σ τ : sf_S} {I : sf_S → sf_S → Prop} (h : sl_prI I (dX11_rules (xs (n + 1)) σ) (dX12_rules (xs (n + 1)) τ)) (kk : ∀ σ τ, I σ τ → sl_W p l e s m args below meth c Q A (sl_Z D cy aC aM σ τ) (sl_lv b (aC 0) (aM 0) (Int32.ofNat n)) 773 []) : sl_W p l e s m args below meth c Q A (sl_Z D cy aC aM σ τ) (sl_lv b (aC 0) (aM 0) (Int32.ofNat n)) 281 [] := by
  obtain ⟨a, σ2, τ2, h1, h2, h3⟩ := h
  refine sl_pair h0 hA hn (na := 1) (pc := 281) (by decide +kernel) (by decide +kernel) (by decide +kernel) (by decide +kernel) (by omega) sl_dC_rules sl_dM_rules (sl_mX11_rules l) (sl_mX12_rules l) (v := .int a) (w := .int a) (σ2 := σ2) (τ2 := τ2) ?_ ?_ (fun q h => by cases h) (fun q h => by cases h) (show (1 : Nat) ≤ 8 by decide) ?_
  · show (dX11_rules (xs (n + 1)) σ).map _ = _
    rw [h1]; rfl
  · show (dX12_rules (xs (n + 1)) τ).map _ = _
    rw [h2]; rfl
  · exact sl_cmpI h0 (by decide +kernel : decode code 299 = .ok (.if_icmp .eq 474, 3)) (by decide) (kk _ _ h3)
theorem sl_case_saves (h0 : sl_At p s m args c D cy A b L xs) (hA : sl_Ads A aC aM) {n : Nat} (hn : n + 6 ≤ L) {σ τ : sf_S} {I : sf_S → sf_S → Prop} (h : sl_prI I (dX11_saves (xs (n + 1)) σ) (dX12_saves (xs (n + 1)) τ)) (kk : ∀ σ τ, I σ τ → sl_W p l e s m args below meth c Q A (sl_Z D cy aC aM σ τ) (sl_lv b (aC 0) (aM 0) (Int32.ofNat n)) 773 []) : sl_W p l e s m args below meth c Q A (sl_Z D cy aC aM σ τ) (sl_lv b (aC 0) (aM 0) (Int32.ofNat n)) 304 [] := by
  obtain ⟨a, σ2, τ2, h1, h2, h3⟩ := h
  refine sl_pair h0 hA hn (na := 1) (pc := 304) (by decide +kernel) (by decide +kernel) (by decide +kernel) (by decide +kernel) (by omega) sl_dC_saves sl_dM_saves (sl_mX11_saves l) (sl_mX12_saves l) (v := .int a) (w := .int a) (σ2 := σ2) (τ2 := τ2) ?_ ?_ (fun q h => by cases h) (fun q h => by cases h) (show (1 : Nat) ≤ 8 by decide) ?_
  · show (dX11_saves (xs (n + 1)) σ).map _ = _
    rw [h1]; rfl
  · show (dX12_saves (xs (n + 1)) τ).map _ = _
    rw [h2]; rfl
  · exact sl_cmpI h0 (by decide +kernel : decode code 322 = .ok (.if_icmp .eq 451, 3)) (by decide) (kk _ _ h3)
theorem sl_case_run (h0 : sl_At p s m args c D cy A b L xs) (hA : sl_Ads A aC aM) {n : Nat} (hn : n + 6 ≤ L) {σ τ : sf_S} {I : sf_S → sf_S → Prop} (h : sl_prI I (dX11_run (xs (n + 1)) (xs (n + 2)) σ) (dX12_run (xs (n + 1)) (xs (n + 2)) τ)) (kk : ∀ σ τ, I σ τ → sl_W p l e s m args below meth c Q A (sl_Z D cy aC aM σ τ) (sl_lv b (aC 0) (aM 0) (Int32.ofNat n)) 773 []) : sl_W p l e s m args below meth c Q A (sl_Z D cy aC aM σ τ) (sl_lv b (aC 0) (aM 0) (Int32.ofNat n)) 327 [] := by
  obtain ⟨a, σ2, τ2, h1, h2, h3⟩ := h
  refine sl_pair h0 hA hn (na := 2) (pc := 327) (by decide +kernel) (by decide +kernel) (by decide +kernel) (by decide +kernel) (by omega) sl_dC_run sl_dM_run (sl_mX11_run l) (sl_mX12_run l) (v := .int a) (w := .int a) (σ2 := σ2) (τ2 := τ2) ?_ ?_ (fun q h => by cases h) (fun q h => by cases h) (show (1 : Nat) ≤ 8 by decide) ?_
  · show (dX11_run (xs (n + 1)) (xs (n + 2)) σ).map _ = _
    rw [h1]; rfl
  · show (dX12_run (xs (n + 1)) (xs (n + 2)) τ).map _ = _
    rw [h2]; rfl
  · exact sl_cmpI h0 (by decide +kernel : decode code 355 = .ok (.if_icmp .eq 418, 3)) (by decide) (kk _ _ h3)
theorem sl_case_result (h0 : sl_At p s m args c D cy A b L xs) (hA : sl_Ads A aC aM) {n : Nat} (hn : n + 6 ≤ L) {σ τ : sf_S} {I : sf_S → sf_S → Prop} (h : sl_prJ I (dX11_result (xs (n + 1)) σ) (dX12_result (xs (n + 1)) τ)) (kk : ∀ σ τ, I σ τ → sl_W p l e s m args below meth c Q A (sl_Z D cy aC aM σ τ) (sl_lv b (aC 0) (aM 0) (Int32.ofNat n)) 773 []) : sl_W p l e s m args below meth c Q A (sl_Z D cy aC aM σ τ) (sl_lv b (aC 0) (aM 0) (Int32.ofNat n)) 360 [] := by
  obtain ⟨a, σ2, τ2, h1, h2, h3⟩ := h
  refine sl_pair h0 hA hn (na := 1) (pc := 360) (by decide +kernel) (by decide +kernel) (by decide +kernel) (by decide +kernel) (by omega) sl_dC_result sl_dM_result (sl_mX11_result l) (sl_mX12_result l) (v := .long a) (w := .long a) (σ2 := σ2) (τ2 := τ2) ?_ ?_ (fun q h => by cases h) (fun q h => by cases h) (show (2 : Nat) ≤ 8 by decide) ?_
  · show (dX11_result (xs (n + 1)) σ).map _ = _
    rw [h1]; rfl
  · show (dX12_result (xs (n + 1)) τ).map _ = _
    rw [h2]; rfl
  · exact sl_cmpL h0 (by decide +kernel : decode code 378 = .ok (.lcmp, 1)) (by decide +kernel : decode code (378 + 1) = .ok (.ifCond .eq 394, 3)) (by decide) (kk _ _ h3)
theorem sl_case_fold (h0 : sl_At p s m args c D cy A b L xs) (hA : sl_Ads A aC aM) {n : Nat} (hn : n + 6 ≤ L) {σ τ : sf_S} {I : sf_S → sf_S → Prop} (h : sl_prJ I (dX11_fold (xs (n + 1)) σ) (dX12_fold (xs (n + 1)) τ)) (kk : ∀ σ τ, I σ τ → sl_W p l e s m args below meth c Q A (sl_Z D cy aC aM σ τ) (sl_lv b (aC 0) (aM 0) (Int32.ofNat n)) 773 []) : sl_W p l e s m args below meth c Q A (sl_Z D cy aC aM σ τ) (sl_lv b (aC 0) (aM 0) (Int32.ofNat n)) 384 [] := by
  obtain ⟨a, σ2, τ2, h1, h2, h3⟩ := h
  refine sl_pair h0 hA hn (na := 1) (pc := 384) (by decide +kernel) (by decide +kernel) (by decide +kernel) (by decide +kernel) (by omega) sl_dC_fold sl_dM_fold (sl_mX11_fold l) (sl_mX12_fold l) (v := .long a) (w := .long a) (σ2 := σ2) (τ2 := τ2) ?_ ?_ (fun q h => by cases h) (fun q h => by cases h) (show (2 : Nat) ≤ 8 by decide) ?_
  · show (dX11_fold (xs (n + 1)) σ).map _ = _
    rw [h1]; rfl
  · show (dX12_fold (xs (n + 1)) τ).map _ = _
    rw [h2]; rfl
  · exact sl_cmpL h0 (by decide +kernel : decode code 402 = .ok (.lcmp, 1)) (by decide +kernel : decode code (402 + 1) = .ok (.ifCond .eq 370, 3)) (by decide) (kk _ _ h3)
theorem sl_case_failure (h0 : sl_At p s m args c D cy A b L xs) (hA : sl_Ads A aC aM) {n : Nat} (hn : n + 6 ≤ L) {σ τ : sf_S} {I : sf_S → sf_S → Prop} (h : sl_prI I (dX11_failure (xs (n + 1)) σ) (dX12_failure (xs (n + 1)) τ)) (kk : ∀ σ τ, I σ τ → sl_W p l e s m args below meth c Q A (sl_Z D cy aC aM σ τ) (sl_lv b (aC 0) (aM 0) (Int32.ofNat n)) 773 []) : sl_W p l e s m args below meth c Q A (sl_Z D cy aC aM σ τ) (sl_lv b (aC 0) (aM 0) (Int32.ofNat n)) 408 [] := by
  obtain ⟨a, σ2, τ2, h1, h2, h3⟩ := h
  refine sl_pair h0 hA hn (na := 1) (pc := 408) (by decide +kernel) (by decide +kernel) (by decide +kernel) (by decide +kernel) (by omega) sl_dC_failure sl_dM_failure (sl_mX11_failure l) (sl_mX12_failure l) (v := .int a) (w := .int a) (σ2 := σ2) (τ2 := τ2) ?_ ?_ (fun q h => by cases h) (fun q h => by cases h) (show (1 : Nat) ≤ 8 by decide) ?_
  · show (dX11_failure (xs (n + 1)) σ).map _ = _
    rw [h1]; rfl
  · show (dX12_failure (xs (n + 1)) τ).map _ = _
    rw [h2]; rfl
  · exact sl_cmpI h0 (by decide +kernel : decode code 426 = .ok (.if_icmp .eq 347, 3)) (by decide) (kk _ _ h3)
theorem sl_case_told (h0 : sl_At p s m args c D cy A b L xs) (hA : sl_Ads A aC aM) {n : Nat} (hn : n + 6 ≤ L) {σ τ : sf_S} {I : sf_S → sf_S → Prop} (h : sl_prI I (dX11_told (xs (n + 1)) σ) (dX12_told (xs (n + 1)) τ)) (kk : ∀ σ τ, I σ τ → sl_W p l e s m args below meth c Q A (sl_Z D cy aC aM σ τ) (sl_lv b (aC 0) (aM 0) (Int32.ofNat n)) 773 []) : sl_W p l e s m args below meth c Q A (sl_Z D cy aC aM σ τ) (sl_lv b (aC 0) (aM 0) (Int32.ofNat n)) 431 [] := by
  obtain ⟨a, σ2, τ2, h1, h2, h3⟩ := h
  refine sl_pair h0 hA hn (na := 1) (pc := 431) (by decide +kernel) (by decide +kernel) (by decide +kernel) (by decide +kernel) (by omega) sl_dC_told sl_dM_told (sl_mX11_told l) (sl_mX12_told l) (v := .int a) (w := .int a) (σ2 := σ2) (τ2 := τ2) ?_ ?_ (fun q h => by cases h) (fun q h => by cases h) (show (1 : Nat) ≤ 8 by decide) ?_
  · show (dX11_told (xs (n + 1)) σ).map _ = _
    rw [h1]; rfl
  · show (dX12_told (xs (n + 1)) τ).map _ = _
    rw [h2]; rfl
  · exact sl_cmpI h0 (by decide +kernel : decode code 449 = .ok (.if_icmp .eq 324, 3)) (by decide) (kk _ _ h3)
theorem sl_case_written (h0 : sl_At p s m args c D cy A b L xs) (hA : sl_Ads A aC aM) {n : Nat} (hn : n + 6 ≤ L) {σ τ : sf_S} {I : sf_S → sf_S → Prop} (h : sl_prJ I (dX11_written (xs (n + 1)) (xs (n + 2)) σ) (dX12_written (xs (n + 1)) (xs (n + 2)) τ)) (kk : ∀ σ τ, I σ τ → sl_W p l e s m args below meth c Q A (sl_Z D cy aC aM σ τ) (sl_lv b (aC 0) (aM 0) (Int32.ofNat n)) 773 []) : sl_W p l e s m args below meth c Q A (sl_Z D cy aC aM σ τ) (sl_lv b (aC 0) (aM 0) (Int32.ofNat n)) 454 [] := by
  obtain ⟨a, σ2, τ2, h1, h2, h3⟩ := h
  refine sl_pair h0 hA hn (na := 2) (pc := 454) (by decide +kernel) (by decide +kernel) (by decide +kernel) (by decide +kernel) (by omega) sl_dC_written sl_dM_written (sl_mX11_written l) (sl_mX12_written l) (v := .long a) (w := .long a) (σ2 := σ2) (τ2 := τ2) ?_ ?_ (fun q h => by cases h) (fun q h => by cases h) (show (2 : Nat) ≤ 8 by decide) ?_
  · show (dX11_written (xs (n + 1)) (xs (n + 2)) σ).map _ = _
    rw [h1]; rfl
  · show (dX12_written (xs (n + 1)) (xs (n + 2)) τ).map _ = _
    rw [h2]; rfl
  · exact sl_cmpL h0 (by decide +kernel : decode code 482 = .ok (.lcmp, 1)) (by decide +kernel : decode code (482 + 1) = .ok (.ifCond .eq 290, 3)) (by decide) (kk _ _ h3)
theorem sl_case_sheet (h0 : sl_At p s m args c D cy A b L xs) (hA : sl_Ads A aC aM) {n : Nat} (hn : n + 6 ≤ L) {σ τ : sf_S} {I : sf_S → sf_S → Prop} (h : sl_prI I (dX11_sheet (xs (n + 1)) (xs (n + 2)) (xs (n + 3)) σ) (dX12_sheet (xs (n + 1)) (xs (n + 2)) (xs (n + 3)) τ)) (kk : ∀ σ τ, I σ τ → sl_W p l e s m args below meth c Q A (sl_Z D cy aC aM σ τ) (sl_lv b (aC 0) (aM 0) (Int32.ofNat n)) 773 []) : sl_W p l e s m args below meth c Q A (sl_Z D cy aC aM σ τ) (sl_lv b (aC 0) (aM 0) (Int32.ofNat n)) 488 [] := by
  obtain ⟨a, σ2, τ2, h1, h2, h3⟩ := h
  refine sl_pair h0 hA hn (na := 3) (pc := 488) (by decide +kernel) (by decide +kernel) (by decide +kernel) (by decide +kernel) (by omega) sl_dC_sheet sl_dM_sheet (sl_mX11_sheet l) (sl_mX12_sheet l) (v := .int a) (w := .int a) (σ2 := σ2) (τ2 := τ2) ?_ ?_ (fun q h => by cases h) (fun q h => by cases h) (show (1 : Nat) ≤ 8 by decide) ?_
  · show (dX11_sheet (xs (n + 1)) (xs (n + 2)) (xs (n + 3)) σ).map _ = _
    rw [h1]; rfl
  · show (dX12_sheet (xs (n + 1)) (xs (n + 2)) (xs (n + 3)) τ).map _ = _
    rw [h2]; rfl
  · exact sl_cmpI h0 (by decide +kernel : decode code 526 = .ok (.if_icmp .eq 247, 3)) (by decide) (kk _ _ h3)
theorem sl_case_lose (h0 : sl_At p s m args c D cy A b L xs) (hA : sl_Ads A aC aM) {n : Nat} (hn : n + 6 ≤ L) {σ τ : sf_S} {I : sf_S → sf_S → Prop} (h : sl_prI I (dX11_lose (xs (n + 1)) σ) (dX12_lose (xs (n + 1)) τ)) (kk : ∀ σ τ, I σ τ → sl_W p l e s m args below meth c Q A (sl_Z D cy aC aM σ τ) (sl_lv b (aC 0) (aM 0) (Int32.ofNat n)) 773 []) : sl_W p l e s m args below meth c Q A (sl_Z D cy aC aM σ τ) (sl_lv b (aC 0) (aM 0) (Int32.ofNat n)) 531 [] := by
  obtain ⟨a, σ2, τ2, h1, h2, h3⟩ := h
  refine sl_pair h0 hA hn (na := 1) (pc := 531) (by decide +kernel) (by decide +kernel) (by decide +kernel) (by decide +kernel) (by omega) sl_dC_lose sl_dM_lose (sl_mX11_lose l) (sl_mX12_lose l) (v := .int a) (w := .int a) (σ2 := σ2) (τ2 := τ2) ?_ ?_ (fun q h => by cases h) (fun q h => by cases h) (show (1 : Nat) ≤ 8 by decide) ?_
  · show (dX11_lose (xs (n + 1)) σ).map _ = _
    rw [h1]; rfl
  · show (dX12_lose (xs (n + 1)) τ).map _ = _
    rw [h2]; rfl
  · exact sl_cmpI h0 (by decide +kernel : decode code 549 = .ok (.if_icmp .eq 224, 3)) (by decide) (kk _ _ h3)
theorem sl_case_lay (h0 : sl_At p s m args c D cy A b L xs) (hA : sl_Ads A aC aM) {n : Nat} (hn : n + 6 ≤ L) {σ τ : sf_S} {I : sf_S → sf_S → Prop} (h : sl_prI I (dX11_lay (xs (n + 1)) (xs (n + 2)) (xs (n + 3)) (xs (n + 4)) σ) (dX12_lay (xs (n + 1)) (xs (n + 2)) (xs (n + 3)) (xs (n + 4)) τ)) (kk : ∀ σ τ, I σ τ → sl_W p l e s m args below meth c Q A (sl_Z D cy aC aM σ τ) (sl_lv b (aC 0) (aM 0) (Int32.ofNat n)) 773 []) : sl_W p l e s m args below meth c Q A (sl_Z D cy aC aM σ τ) (sl_lv b (aC 0) (aM 0) (Int32.ofNat n)) 554 [] := by
  obtain ⟨a, σ2, τ2, h1, h2, h3⟩ := h
  refine sl_pair h0 hA hn (na := 4) (pc := 554) (by decide +kernel) (by decide +kernel) (by decide +kernel) (by decide +kernel) (by omega) sl_dC_lay sl_dM_lay (sl_mX11_lay l) (sl_mX12_lay l) (v := .int a) (w := .int a) (σ2 := σ2) (τ2 := τ2) ?_ ?_ (fun q h => by cases h) (fun q h => by cases h) (show (1 : Nat) ≤ 8 by decide) ?_
  · show (dX11_lay (xs (n + 1)) (xs (n + 2)) (xs (n + 3)) (xs (n + 4)) σ).map _ = _
    rw [h1]; rfl
  · show (dX12_lay (xs (n + 1)) (xs (n + 2)) (xs (n + 3)) (xs (n + 4)) τ).map _ = _
    rw [h2]; rfl
  · exact sl_cmpI h0 (by decide +kernel : decode code 602 = .ok (.if_icmp .eq 171, 3)) (by decide) (kk _ _ h3)
theorem sl_case_get (h0 : sl_At p s m args c D cy A b L xs) (hA : sl_Ads A aC aM) {n : Nat} (hn : n + 6 ≤ L) {σ τ : sf_S} {I : sf_S → sf_S → Prop} (h : sl_prI I (dX11_get (xs (n + 1)) (xs (n + 2)) (xs (n + 3)) σ) (dX12_get (xs (n + 1)) (xs (n + 2)) (xs (n + 3)) τ)) (kk : ∀ σ τ, I σ τ → sl_W p l e s m args below meth c Q A (sl_Z D cy aC aM σ τ) (sl_lv b (aC 0) (aM 0) (Int32.ofNat n)) 773 []) : sl_W p l e s m args below meth c Q A (sl_Z D cy aC aM σ τ) (sl_lv b (aC 0) (aM 0) (Int32.ofNat n)) 607 [] := by
  obtain ⟨a, σ2, τ2, h1, h2, h3⟩ := h
  refine sl_pair h0 hA hn (na := 3) (pc := 607) (by decide +kernel) (by decide +kernel) (by decide +kernel) (by decide +kernel) (by omega) sl_dC_get sl_dM_get (sl_mX11_get l) (sl_mX12_get l) (v := .int a) (w := .int a) (σ2 := σ2) (τ2 := τ2) ?_ ?_ (fun q h => by cases h) (fun q h => by cases h) (show (1 : Nat) ≤ 8 by decide) ?_
  · show (dX11_get (xs (n + 1)) (xs (n + 2)) (xs (n + 3)) σ).map _ = _
    rw [h1]; rfl
  · show (dX12_get (xs (n + 1)) (xs (n + 2)) (xs (n + 3)) τ).map _ = _
    rw [h2]; rfl
  · exact sl_cmpI h0 (by decide +kernel : decode code 645 = .ok (.if_icmp .eq 128, 3)) (by decide) (kk _ _ h3)
theorem sl_case_copy (h0 : sl_At p s m args c D cy A b L xs) (hA : sl_Ads A aC aM) {n : Nat} (hn : n + 6 ≤ L) {σ τ : sf_S} {I : sf_S → sf_S → Prop} (h : sl_prI I (dX11_copy (xs (n + 1)) (xs (n + 2)) (xs (n + 3)) (xs (n + 4)) (xs (n + 5)) σ) (dX12_copy (xs (n + 1)) (xs (n + 2)) (xs (n + 3)) (xs (n + 4)) (xs (n + 5)) τ)) (kk : ∀ σ τ, I σ τ → sl_W p l e s m args below meth c Q A (sl_Z D cy aC aM σ τ) (sl_lv b (aC 0) (aM 0) (Int32.ofNat n)) 773 []) : sl_W p l e s m args below meth c Q A (sl_Z D cy aC aM σ τ) (sl_lv b (aC 0) (aM 0) (Int32.ofNat n)) 650 [] := by
  obtain ⟨a, σ2, τ2, h1, h2, h3⟩ := h
  refine sl_pair h0 hA hn (na := 5) (pc := 650) (by decide +kernel) (by decide +kernel) (by decide +kernel) (by decide +kernel) (by omega) sl_dC_copy sl_dM_copy (sl_mX11_copy l) (sl_mX12_copy l) (v := .int a) (w := .int a) (σ2 := σ2) (τ2 := τ2) ?_ ?_ (fun q h => by cases h) (fun q h => by cases h) (show (1 : Nat) ≤ 8 by decide) ?_
  · show (dX11_copy (xs (n + 1)) (xs (n + 2)) (xs (n + 3)) (xs (n + 4)) (xs (n + 5)) σ).map _ = _
    rw [h1]; rfl
  · show (dX12_copy (xs (n + 1)) (xs (n + 2)) (xs (n + 3)) (xs (n + 4)) (xs (n + 5)) τ).map _ = _
    rw [h2]; rfl
  · exact sl_cmpI h0 (by decide +kernel : decode code 708 = .ok (.if_icmp .eq 65, 3)) (by decide) (kk _ _ h3)
theorem sl_case_write (h0 : sl_At p s m args c D cy A b L xs) (hA : sl_Ads A aC aM) {n : Nat} (hn : n + 6 ≤ L) {σ τ : sf_S} {I : sf_S → sf_S → Prop} (h : sl_prI I (dX11_write (xs (n + 1)) σ) (dX12_write (xs (n + 1)) τ)) (kk : ∀ σ τ, I σ τ → sl_W p l e s m args below meth c Q A (sl_Z D cy aC aM σ τ) (sl_lv b (aC 0) (aM 0) (Int32.ofNat n)) 773 []) : sl_W p l e s m args below meth c Q A (sl_Z D cy aC aM σ τ) (sl_lv b (aC 0) (aM 0) (Int32.ofNat n)) 713 [] := by
  obtain ⟨a, σ2, τ2, h1, h2, h3⟩ := h
  refine sl_pair h0 hA hn (na := 1) (pc := 713) (by decide +kernel) (by decide +kernel) (by decide +kernel) (by decide +kernel) (by omega) sl_dC_write sl_dM_write (sl_mX11_write l) (sl_mX12_write l) (v := .int a) (w := .int a) (σ2 := σ2) (τ2 := τ2) ?_ ?_ (fun q h => by cases h) (fun q h => by cases h) (show (1 : Nat) ≤ 8 by decide) ?_
  · show (dX11_write (xs (n + 1)) σ).map _ = _
    rw [h1]; rfl
  · show (dX12_write (xs (n + 1)) τ).map _ = _
    rw [h2]; rfl
  · exact sl_cmpI h0 (by decide +kernel : decode code 731 = .ok (.if_icmp .eq 42, 3)) (by decide) (kk _ _ h3)
theorem sl_case_count (h0 : sl_At p s m args c D cy A b L xs) (hA : sl_Ads A aC aM) {n : Nat} (hn : n + 6 ≤ L) {σ τ : sf_S} {I : sf_S → sf_S → Prop} (h : sl_prI I (dX11_count (xs (n + 1)) σ) (dX12_count (xs (n + 1)) τ)) (kk : ∀ σ τ, I σ τ → sl_W p l e s m args below meth c Q A (sl_Z D cy aC aM σ τ) (sl_lv b (aC 0) (aM 0) (Int32.ofNat n)) 773 []) : sl_W p l e s m args below meth c Q A (sl_Z D cy aC aM σ τ) (sl_lv b (aC 0) (aM 0) (Int32.ofNat n)) 736 [] := by
  obtain ⟨a, σ2, τ2, h1, h2, h3⟩ := h
  refine sl_pair h0 hA hn (na := 1) (pc := 736) (by decide +kernel) (by decide +kernel) (by decide +kernel) (by decide +kernel) (by omega) sl_dC_count sl_dM_count (sl_mX11_count l) (sl_mX12_count l) (v := .int a) (w := .int a) (σ2 := σ2) (τ2 := τ2) ?_ ?_ (fun q h => by cases h) (fun q h => by cases h) (show (1 : Nat) ≤ 8 by decide) ?_
  · show (dX11_count (xs (n + 1)) σ).map _ = _
    rw [h1]; rfl
  · show (dX12_count (xs (n + 1)) τ).map _ = _
    rw [h2]; rfl
  · exact sl_cmpI h0 (by decide +kernel : decode code 754 = .ok (.if_icmp .eq 19, 3)) (by decide) (kk _ _ h3)
theorem sl_case_digest (h0 : sl_At p s m args c D cy A b L xs) (hA : sl_Ads A aC aM) {n : Nat} (hn : n + 6 ≤ L) {σ τ : sf_S} {I : sf_S → sf_S → Prop} (h : sl_prJ I (dX11_digest σ) (dX12_digest τ)) (kk : ∀ σ τ, I σ τ → sl_W p l e s m args below meth c Q A (sl_Z D cy aC aM σ τ) (sl_lv b (aC 0) (aM 0) (Int32.ofNat n)) 773 []) : sl_W p l e s m args below meth c Q A (sl_Z D cy aC aM σ τ) (sl_lv b (aC 0) (aM 0) (Int32.ofNat n)) 759 [] := by
  obtain ⟨a, σ2, τ2, h1, h2, h3⟩ := h
  refine sl_pair h0 hA hn (na := 0) (pc := 759) (by decide +kernel) (by decide +kernel) (by decide +kernel) (by decide +kernel) (by omega) sl_dC_digest sl_dM_digest (sl_mX11_digest l) (sl_mX12_digest l) (v := .long a) (w := .long a) (σ2 := σ2) (τ2 := τ2) ?_ ?_ (fun q h => by cases h) (fun q h => by cases h) (show (2 : Nat) ≤ 8 by decide) ?_
  · show (dX11_digest σ).map _ = _
    rw [h1]; rfl
  · show (dX12_digest τ).map _ = _
    rw [h2]; rfl
  · exact sl_cmpL h0 (by decide +kernel : decode code 767 = .ok (.lcmp, 1)) (by decide +kernel : decode code (767 + 1) = .ok (.ifCond .eq 5, 3)) (by decide) (kk _ _ h3)
end SLC
