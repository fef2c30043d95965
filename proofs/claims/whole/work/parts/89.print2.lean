/-! printing: nodes and plans -/
noncomputable def sc_nt (x : Int32) : List Int32 := Classical.choose (sc_numtext x)
theorem sc_nt_len (x : Int32) : (sc_nt x).length ≤ 12 := (Classical.choose_spec (sc_numtext x)).1
theorem sc_nt_C (x : Int32) {σ : sf_S} {l : Nat} (h : σ 11 2 = nI l) (hl : l + 12 ≤ 400) : dX3_putNumber x σ = some (sc_em 12 11 2 (sc_nt x) l σ) := (Classical.choose_spec (sc_numtext x)).2.1 σ l h hl
theorem sc_nt_M (x : Int32) {τ : sf_S} {l : Nat} (h : τ 0 29 = nI l) (hl : l + 12 ≤ 1200) : dX12_tellsNumber x τ = some (sc_em 21 0 29 (sc_nt x) l τ) := (Classical.choose_spec (sc_numtext x)).2.2 τ l h hl
def sc_mkt (c mk : Int32) : List Int32 := if sc_mk c = 0 then [] else [if 8 ≤ sc_mk c then 48 + mk else mk]
noncomputable def sc_nut (c f s : Int32) : List Int32 := (if sc_nn c = 0 then [] else sc_nt f) ++ (if sc_nn c = 2 then sc_nt s else [])
noncomputable def sc_ndt (c mk f s : Int32) : List Int32 := c :: (sc_mkt c mk ++ sc_nut c f s)
theorem sc_nut_len (c f s : Int32) (h : sc_nn c ≤ 2) : (sc_nut c f s).length ≤ 12 * sc_nn c := by
  have h1 := sc_nt_len f
  have h2 := sc_nt_len s
  unfold sc_nut
  rcases (by omega : sc_nn c = 0 ∨ sc_nn c = 1 ∨ sc_nn c = 2) with q | q | q
  · simp [q]
  · simp [q]; omega
  · simp [q]; omega
theorem sc_mkt_len (c mk : Int32) : (sc_mkt c mk).length = if sc_mk c = 0 then 0 else 1 := by
  unfold sc_mkt
  split <;> rfl
theorem sc_ndt_len {c : Int32} (h : sc_il c = true) (mk f s : Int32) : (sc_ndt c mk f s).length ≤ 1 + (if sc_mk c = 0 then 0 else 1) + 12 * sc_nn c ∧ 1 + (if sc_mk c = 0 then 0 else 1) + 12 * sc_nn c ≤ sc_ph c := by
  obtain ⟨-, -, -, l4, -⟩ := sc_let h
  refine ⟨?_, ?_⟩
  · have := sc_nut_len c f s l4
    rw [sc_ndt, List.length_cons, List.length_append, sc_mkt_len]
    omega
  · unfold sc_ph
    by_cases h1 : c = 116
    · subst h1; decide +kernel
    · rw [if_neg h1]; exact Nat.le_refl _
theorem sc_cb {c : Int32} (h : sc_il c = true) : ∃ b, b < 128 ∧ c = nI b := by
  rcases sc_il_cases h with q | q | q | q | q | q | q | q | q | q | q | q | q | q | q | q | q | q <;> subst q
  · exact ⟨37, by decide, by decide +kernel⟩
  · exact ⟨42, by decide, by decide +kernel⟩
  · exact ⟨43, by decide, by decide +kernel⟩
  · exact ⟨47, by decide, by decide +kernel⟩
  · exact ⟨63, by decide, by decide +kernel⟩
  · exact ⟨99, by decide, by decide +kernel⟩
  · exact ⟨100, by decide, by decide +kernel⟩
  · exact ⟨105, by decide, by decide +kernel⟩
  · exact ⟨107, by decide, by decide +kernel⟩
  · exact ⟨108, by decide, by decide +kernel⟩
  · exact ⟨114, by decide, by decide +kernel⟩
  · exact ⟨115, by decide, by decide +kernel⟩
  · exact ⟨116, by decide, by decide +kernel⟩
  · exact ⟨117, by decide, by decide +kernel⟩
  · exact ⟨118, by decide, by decide +kernel⟩
  · exact ⟨119, by decide, by decide +kernel⟩
  · exact ⟨120, by decide, by decide +kernel⟩
  · exact ⟨122, by decide, by decide +kernel⟩
theorem sc_mb {c mk : Int32} (hm : sc_mk c ≠ 0) (h : sc_mv (sc_mk c) mk) : (∃ b, b < 128 ∧ (if 8 ≤ sc_mk c then 48 + mk else mk) = nI b) ∧ mk ≠ -1 := by
  obtain ⟨k6, k10, -⟩ := sc_mk_v hm
  generalize sc_mk c = k at *
  unfold sc_mv at h
  rcases (by omega : k = 6 ∨ k = 7 ∨ k = 8 ∨ k = 9) with q | q | q | q <;> subst q
  · simp only [if_true] at h
    rw [if_neg (by omega)]
    rcases h with h | h | h <;> subst h
    · exact ⟨⟨60, by decide, by decide +kernel⟩, by decide⟩
    · exact ⟨⟨62, by decide, by decide +kernel⟩, by decide⟩
    · exact ⟨⟨61, by decide, by decide +kernel⟩, by decide⟩
  · simp only [show ¬ (7 : Nat) = 6 by decide, if_false, if_true] at h
    rw [if_neg (by omega)]
    rcases h with h | h | h <;> subst h
    · exact ⟨⟨43, by decide, by decide +kernel⟩, by decide⟩
    · exact ⟨⟨42, by decide, by decide +kernel⟩, by decide⟩
    · exact ⟨⟨60, by decide, by decide +kernel⟩, by decide⟩
  · simp only [show ¬ (8 : Nat) = 6 by decide, show ¬ (8 : Nat) = 7 by decide, if_false, if_true] at h
    obtain ⟨d, hd, rfl⟩ := h
    rw [if_pos (by omega), sc_48]
    exact ⟨⟨48 + d, by omega, rfl⟩, sc_nm1 (by omega)⟩
  · simp only [show ¬ (9 : Nat) = 6 by decide, show ¬ (9 : Nat) = 7 by decide, show ¬ (9 : Nat) = 8 by decide, if_false] at h
    obtain ⟨d, hd, rfl⟩ := h
    rw [if_pos (by omega), sc_48]
    exact ⟨⟨48 + d, by omega, rfl⟩, sc_nm1 (by omega)⟩
theorem sc_numsM {c : Int32} (h : sc_il c = true) (τ : sf_S) : dX12_numbersOf c τ = some (nI (sc_nn c), τ) := by
  rcases sc_il_cases h with q | q | q | q | q | q | q | q | q | q | q | q | q | q | q | q | q | q <;> subst q <;> rfl
/-- the class prints numbers -/
theorem sc_p66 {k l : Nat} {c : Int32} {σ : sf_S} (hk : k < 40) (hn : sc_nn c ≤ 2) (h : σ 11 2 = nI l) (hl : l + 12 * sc_nn c ≤ 400) : dX3_printNode_66 (nI k) (nI (sc_nn c)) σ = some (sc_em 12 11 2 (sc_nut c (σ 4 k) (σ 5 k)) l σ) := by
  have hin : sf_in (nI k) 40 = true := sc_inI hk (by omega)
  unfold dX3_printNode_66 dX3_printNode_83 sc_nut
  have hle : ∀ a : Nat, a < 10 → ∀ b : Nat, b < 10 → (nI a ≤ nI b ↔ a ≤ b) := fun a ha b hb => nI_leI (by omega) (by omega)
  simp only [sc_0, sc_1, hle (sc_nn c) (by omega) 0 (by omega), hle (sc_nn c) (by omega) 1 (by omega), hin, if_true, sc_cl (show k < 2 ^ 31 by omega)]
  rcases (by omega : sc_nn c = 0 ∨ sc_nn c = 1 ∨ sc_nn c = 2) with q | q | q
  · rw [if_pos (by omega), if_pos (by omega), if_pos q, if_neg (by omega)]; rfl
  · rw [if_neg (by omega), sc_nt_C _ h (by omega), if_neg (by omega), if_neg (by omega)]
    simp only [Option.bind_some]
    rw [if_pos (by omega), List.append_nil]
  · rw [if_neg (by omega), sc_nt_C _ h (by omega), if_neg (by omega), if_pos q]
    simp only [Option.bind_some]
    have h5 := sc_nt_len (σ 4 k)
    rw [if_neg (by omega), sc_em_ne _ _ _ 5 k (by omega) (by omega), sc_nt_C _ (sc_em_cnt _ _ _ h) (by omega)]
    simp only [Option.bind_some]
    rw [sc_em_app]
theorem sc_printNode {k l : Nat} {σ : sf_S} (hk : k < 40) (hv : sc_vn (σ 2 k) (σ 3 k) (σ 4 k) (σ 5 k)) (h : σ 11 2 = nI l) (hl : l + sc_ph (σ 2 k) ≤ 400) : dX3_printNode (nI k) σ = some (sc_em 12 11 2 (sc_ndt (σ 2 k) (σ 3 k) (σ 4 k) (σ 5 k)) l σ) := by
  obtain ⟨hil, hmk, -⟩ := hv
  obtain ⟨-, -, -, l4, -⟩ := sc_let hil
  obtain ⟨b, hb, hcb⟩ := sc_cb hil
  obtain ⟨-, hph⟩ := sc_ndt_len hil (σ 3 k) (σ 4 k) (σ 5 k)
  have hin : sf_in (nI k) 40 = true := sc_inI hk (by omega)
  unfold dX3_printNode
  simp only [hin, if_true, sc_cl (show k < 2 ^ 31 by omega), sc_numsC, Option.bind_some]
  rw [sc_put hcb hb h (by omega)]
  simp only [Option.bind_some, sc_hdC, sc_hmC, sc_b0, decide_eq_false_iff_not, Classical.not_not]
  generalize hs1 : sf_up (sf_up σ 12 l (σ 2 k)) 11 2 (nI (l + 1)) = s1
  have e1 : s1 11 2 = nI (l + 1) := by rw [← hs1]; exact sc_upS
  have ne1 : ∀ a b, a ≠ 11 → a ≠ 12 → s1 a b = σ a b := fun a b q1 q2 => by rw [← hs1, sc_upK q1, sc_upK q2]
  have hem : ∀ ds, sc_em 12 11 2 (σ 2 k :: ds) l σ = sc_em 12 11 2 ds (l + 1) s1 := fun ds => by rw [sc_em, hs1]
  rw [sc_ndt, hem]
  by_cases hm : sc_mk (σ 2 k) = 0
  · have hd : ¬ (σ 2 k = 115 ∨ σ 2 k = 108) := fun q => by
      rcases q with q | q <;> rw [q] at hm <;> exact absurd hm (by decide +kernel)
    rw [if_pos hd, if_pos hm, sc_p66 hk l4 e1 (by rw [if_pos hm] at hph; omega), ne1 _ _ (by omega) (by omega), ne1 _ _ (by omega) (by omega), sc_mkt, if_pos hm, List.nil_append]
  · obtain ⟨k6, k10, kd⟩ := sc_mk_v hm
    rw [if_neg hm] at hmk hph
    obtain ⟨⟨d, hd, hdb⟩, -⟩ := sc_mb hm hmk
    have hkd : (σ 2 k = 115 ∨ σ 2 k = 108) ↔ 8 ≤ sc_mk (σ 2 k) := by
      have := kd
      rw [decide_eq_decide] at this
      exact this
    have e3 : s1 3 k = σ 3 k := ne1 _ _ (by omega) (by omega)
    have fin : ∀ x, x = (if 8 ≤ sc_mk (σ 2 k) then 48 + σ 3 k else σ 3 k) → ((dX3_put x s1).bind fun u => dX3_printNode_66 (nI k) (nI (sc_nn (σ 2 k))) u) = some (sc_em 12 11 2 (sc_mkt (σ 2 k) (σ 3 k) ++ sc_nut (σ 2 k) (σ 4 k) (σ 5 k)) (l + 1) s1) := fun x hx => by
      rw [sc_put (hx.trans hdb) hd e1 (by omega)]
      simp only [Option.bind_some]
      rw [sc_p66 hk l4 sc_upS (by omega), sc_upK (by omega), sc_upK (by omega), sc_upK (by omega), sc_upK (by omega), ne1 _ _ (by omega) (by omega), ne1 _ _ (by omega) (by omega), sc_mkt, if_neg hm, ← hx]
      rfl
    by_cases h8 : 8 ≤ sc_mk (σ 2 k)
    · rw [if_neg (by rw [hkd]; omega), e3]
      exact fin _ (by rw [if_pos h8])
    · rw [if_pos (by rw [hkd]; exact h8), if_neg hm, e3]
      exact fin _ (by rw [if_neg h8])
/-- the text of the nodes from k on -/
noncomputable def sc_tr (L M F S : Nat → Int32) : Nat → Nat → List Int32
  | _, 0 => []
  | k, r + 1 => sc_ndt (L k) (M k) (F k) (S k) ++ sc_tr L M F S (k + 1) r
theorem sc_tr_congr {L M F S L' M' F' S' : Nat → Int32} : ∀ {r k : Nat}, (∀ j, k ≤ j → j < k + r → L' j = L j ∧ M' j = M j ∧ F' j = F j ∧ S' j = S j) → sc_tr L' M' F' S' k r = sc_tr L M F S k r
  | 0, _, _ => rfl
  | r + 1, k, h => by
    obtain ⟨h1, h2, h3, h4⟩ := h k (Nat.le_refl _) (by omega)
    rw [sc_tr, sc_tr, h1, h2, h3, h4, sc_tr_congr (r := r) (k := k + 1) (fun j a b => h j (by omega) (by omega))]
theorem sc_tr_len {L M F S : Nat → Int32} : ∀ {r k : Nat}, (∀ j, k ≤ j → j < k + r → sc_il (L j) = true) → sc_ws L k + (sc_tr L M F S k r).length ≤ sc_ws L (k + r)
  | 0, k, _ => by simp [sc_tr]
  | r + 1, k, h => by
    have h1 := sc_ndt_len (h k (Nat.le_refl _) (by omega)) (M k) (F k) (S k)
    have h2 := sc_tr_len (M := M) (F := F) (S := S) (r := r) (k := k + 1) (fun j a b => h j (by omega) (by omega))
    rw [sc_tr, List.length_append, show k + (r + 1) = k + 1 + r by omega]
    rw [sc_ws] at h2
    omega
/-- the class prints -/
theorem sc_printL {n : Nat} {L M F S : Nat → Int32} (hn : n ≤ 40) (hv : ∀ j, j < n → sc_vn (L j) (M j) (F j) (S j)) : ∀ (r k l fuel : Nat) (σ : sf_S), k + r = n → r < fuel → σ 1 4 = nI n → (∀ j, j < n → σ 2 j = L j ∧ σ 3 j = M j ∧ σ 4 j = F j ∧ σ 5 j = S j) → σ 11 2 = nI l → l + sc_ws L n ≤ 400 + sc_ws L k →
    dX3_print_7 fuel (nI k) σ = some (sc_em 12 11 2 (sc_tr L M F S k r) l σ) := by
  intro r
  induction r with
  | zero =>
    intro k l fuel σ hk hf h4 hA h hl
    obtain ⟨m, rfl⟩ : ∃ m, fuel = m + 1 := ⟨fuel - 1, by omega⟩
    simp only [dX3_print_7]
    rw [h4, if_pos (nI_le (by omega) (by omega))]
    rfl
  | succ r ih =>
    intro k l fuel σ hk hf h4 hA h hl
    obtain ⟨m, rfl⟩ : ∃ m, fuel = m + 1 := ⟨fuel - 1, by omega⟩
    obtain ⟨a1, a2, a3, a4⟩ := hA k (by omega)
    have hvk := hv k (by omega)
    have hlen := sc_ndt_len hvk.1 (M k) (F k) (S k)
    have hmono : ∀ a b, sc_ws L a ≤ sc_ws L (a + b) := fun a b => by
      induction b with
      | zero => exact Nat.le_refl _
      | succ b ih2 => exact Nat.le_trans ih2 (Nat.le_add_right _ _)
    have hw : sc_ws L (k + 1) ≤ sc_ws L n := by
      have := hmono (k + 1) r
      rwa [show k + 1 + r = n by omega] at this
    rw [sc_ws] at hw
    simp only [dX3_print_7]
    rw [h4, if_neg (nI_ge (by omega) (by omega)), sc_printNode (by omega) (by rw [a1, a2, a3, a4]; exact hvk) h (by rw [a1]; omega), a1, a2, a3, a4]
    simp only [Option.bind_some, nI_1]
    rw [ih (k + 1) (l + (sc_ndt (L k) (M k) (F k) (S k)).length) m _ (by omega) (by omega) (by rw [sc_em_ne _ _ _ _ _ (by omega) (by omega)]; exact h4) (fun j hj => by rw [sc_em_ne _ _ _ _ _ (by omega) (by omega), sc_em_ne _ _ _ _ _ (by omega) (by omega), sc_em_ne _ _ _ _ _ (by omega) (by omega), sc_em_ne _ _ _ _ _ (by omega) (by omega)]; exact hA j hj) (sc_em_cnt _ _ _ h) (by rw [sc_ws]; omega), sc_tr, sc_em_app]
/-- the reference prints numbers -/
theorem sc_w79 {k l : Nat} {τ : sf_S} {K : Int32 → sf_S → Option sf_S} (hk : k < 40) (hil : sc_il (τ 11 k) = true) (h : τ 0 29 = nI l) (hl : l + 12 * sc_nn (τ 11 k) ≤ 1200) : dX12_writesPlan_79 K (nI k) τ = K (nI (k + 1)) (sc_em 21 0 29 (sc_nut (τ 11 k) (τ 13 k) (τ 14 k)) l τ) := by
  obtain ⟨-, -, -, l4, -⟩ := sc_let hil
  have hin : sf_in (nI k) 40 = true := sc_inI hk (by omega)
  unfold dX12_writesPlan_79 dX12_writesPlan_101 sc_nut
  have hle : ∀ a : Nat, a < 10 → ∀ b : Nat, b < 10 → (nI a ≤ nI b ↔ a ≤ b) := fun a ha b hb => nI_leI (by omega) (by omega)
  simp only [hin, if_true, sc_cl (show k < 2 ^ 31 by omega), sc_numsM hil, Option.bind_some, nI_1]
  simp only [sc_0, sc_1, hle (sc_nn (τ 11 k)) (by omega) 0 (by omega), hle (sc_nn (τ 11 k)) (by omega) 1 (by omega)]
  rcases (by omega : sc_nn (τ 11 k) = 0 ∨ sc_nn (τ 11 k) = 1 ∨ sc_nn (τ 11 k) = 2) with q | q | q
  · rw [if_pos (by omega), if_pos (by omega), if_pos q, if_neg (by omega)]; rfl
  · rw [if_neg (by omega), sc_nt_M _ h (by omega), if_neg (by omega), if_neg (by omega)]
    simp only [Option.bind_some]
    rw [sc_em_ne _ _ _ 11 k (by omega) (by omega), sc_numsM hil]
    simp only [Option.bind_some, hle (sc_nn (τ 11 k)) (by omega) 1 (by omega)]
    rw [if_pos (by omega), List.append_nil]
  · rw [if_neg (by omega), sc_nt_M _ h (by omega), if_neg (by omega), if_pos q]
    simp only [Option.bind_some]
    have h5 := sc_nt_len (τ 13 k)
    rw [sc_em_ne _ _ _ 11 k (by omega) (by omega), sc_numsM hil]
    simp only [Option.bind_some, hle (sc_nn (τ 11 k)) (by omega) 1 (by omega)]
    rw [if_neg (by omega), sc_em_ne _ _ _ 14 k (by omega) (by omega), sc_nt_M _ (sc_em_cnt _ _ _ h) (by omega)]
    simp only [Option.bind_some]
    rw [sc_em_app]
theorem sc_writesL {n : Nat} {L M F S : Nat → Int32} (hn : n ≤ 40) (hv : ∀ j, j < n → sc_vn (L j) (M j) (F j) (S j)) : ∀ (r k l fuel : Nat) (τ : sf_S), k + r = n → r < fuel → τ 0 21 = nI n → (∀ j, j < n → τ 11 j = L j ∧ τ 12 j = M j ∧ τ 13 j = F j ∧ τ 14 j = S j) → τ 0 29 = nI l → l + sc_ws L n ≤ 400 + sc_ws L k →
    dX12_writesPlan_7 fuel (nI k) τ = some (sc_em 21 0 29 (sc_tr L M F S k r) l τ) := by
  intro r
  induction r with
  | zero =>
    intro k l fuel τ hk hf h4 hA h hl
    obtain ⟨m, rfl⟩ : ∃ m, fuel = m + 1 := ⟨fuel - 1, by omega⟩
    simp only [dX12_writesPlan_7]
    rw [h4, if_pos (nI_le (by omega) (by omega))]
    rfl
  | succ r ih =>
    intro k l fuel τ hk hf h4 hA h hl
    obtain ⟨m, rfl⟩ : ∃ m, fuel = m + 1 := ⟨fuel - 1, by omega⟩
    obtain ⟨a1, a2, a3, a4⟩ := hA k (by omega)
    have hvk := hv k (by omega)
    obtain ⟨hil, hmk, -⟩ := hvk
    have hlen := sc_ndt_len hil (M k) (F k) (S k)
    have hmono : ∀ a b, sc_ws L a ≤ sc_ws L (a + b) := fun a b => by
      induction b with
      | zero => exact Nat.le_refl _
      | succ b ih2 => exact Nat.le_trans ih2 (Nat.le_add_right _ _)
    have hw : sc_ws L (k + 1) ≤ sc_ws L n := by
      have := hmono (k + 1) r
      rwa [show k + 1 + r = n by omega] at this
    rw [sc_ws] at hw
    have hin : sf_in (nI k) 40 = true := sc_inI (by omega) (by omega)
    simp only [dX12_writesPlan_7]
    rw [h4, if_neg (nI_ge (by omega) (by omega))]
    simp only [hin, if_true, sc_cl (show k < 2 ^ 31 by omega)]
    rw [a1, sc_tell h (by omega)]
    simp only [Option.bind_some]
    generalize hs1 : sf_up (sf_up τ 21 l (L k)) 0 29 (nI (l + 1)) = s1
    have e1 : s1 0 29 = nI (l + 1) := by rw [← hs1]; exact sc_upS
    have ne1 : ∀ a b, a ≠ 0 → a ≠ 21 → s1 a b = τ a b := fun a b q1 q2 => by rw [← hs1, sc_upK q1, sc_upK q2]
    have b1 : s1 11 k = L k := (ne1 _ _ (by omega) (by omega)).trans a1
    have b2 : s1 12 k = M k := (ne1 _ _ (by omega) (by omega)).trans a2
    have hem : ∀ ds, sc_em 21 0 29 (L k :: ds) l τ = sc_em 21 0 29 ds (l + 1) s1 := fun ds => by rw [sc_em, hs1]
    -- behind the mark
    have go : ∀ (l2 : Nat) (s2 : sf_S), (∀ a b, a ≠ 0 → a ≠ 21 → s2 a b = τ a b) → s2 0 21 = nI n → s2 0 29 = nI l2 → l2 = l + 1 + (sc_mkt (L k) (M k)).length → s2 = sc_em 21 0 29 (sc_mkt (L k) (M k)) (l + 1) s1 → dX12_writesPlan_79 (dX12_writesPlan_7 m) (nI k) s2 = some (sc_em 21 0 29 (sc_tr L M F S k (r + 1)) l τ) := by
      intro l2 s2 n2 e21 e29 hl2 hs2
      have c1 : s2 11 k = L k := (n2 _ _ (by omega) (by omega)).trans a1
      have c3 : s2 13 k = F k := (n2 _ _ (by omega) (by omega)).trans a3
      have c4 : s2 14 k = S k := (n2 _ _ (by omega) (by omega)).trans a4
      have hmlen := sc_mkt_len (L k) (M k)
      have hnl := sc_nut_len (L k) (F k) (S k) (sc_let hil).2.2.2.1
      rw [sc_w79 (by omega) (by rw [c1]; exact hil) e29 (by rw [c1]; omega), c1, c3, c4]
      rw [ih (k + 1) (l2 + (sc_nut (L k) (F k) (S k)).length) m _ (by omega) (by omega) (by rw [sc_em_ne _ _ _ _ _ (by omega) (by omega)]; exact e21) (fun j hj => by
        rw [sc_em_ne _ _ _ _ _ (by omega) (by omega), sc_em_ne _ _ _ _ _ (by omega) (by omega), sc_em_ne _ _ _ _ _ (by omega) (by omega), sc_em_ne _ _ _ _ _ (by omega) (by omega), n2 _ _ (by omega) (by omega), n2 _ _ (by omega) (by omega), n2 _ _ (by omega) (by omega), n2 _ _ (by omega) (by omega)]; exact hA j hj) (sc_em_cnt _ _ _ e29) (by rw [sc_ws]; omega)]
      rw [sc_tr, sc_ndt, List.cons_append, hem, List.append_assoc, sc_em_app, ← hs2, ← hl2, sc_em_app]
    have e21 : s1 0 21 = nI n := by rw [← hs1, sc_upJ (by omega), sc_upK (by omega)]; exact h4
    by_cases hm : sc_mk (L k) = 0
    · rw [if_pos hm] at hmk
      rw [if_pos (b2.trans hmk)]
      exact go (l + 1) s1 ne1 e21 e1 (by rw [sc_mkt, if_pos hm]; rfl) (by rw [sc_mkt, if_pos hm]; rfl)
    · rw [if_neg hm] at hmk
      obtain ⟨-, hm1⟩ := sc_mb hm hmk
      obtain ⟨k6, k10, kd⟩ := sc_mk_v hm
      have hkd : (L k = 115 ∨ L k = 108) ↔ 8 ≤ sc_mk (L k) := by
        have := kd
        rw [decide_eq_decide] at this
        exact this
      have fin : ∀ x, x = (if 8 ≤ sc_mk (L k) then 48 + M k else M k) → ((dX12_tells x s1).bind fun u => dX12_writesPlan_79 (dX12_writesPlan_7 m) (nI k) u) = some (sc_em 21 0 29 (sc_tr L M F S k (r + 1)) l τ) := fun x hx => by
        rw [sc_tell e1 (by omega)]
        simp only [Option.bind_some]
        refine go (l + 1 + 1) _ (fun a b q1 q2 => by rw [sc_upK q1, sc_upK q2]; exact ne1 a b q1 q2) ?_ sc_upS (by rw [sc_mkt_len, if_neg hm]) ?_
        · rw [sc_upJ (by omega), sc_upK (by omega)]; exact e21
        · rw [sc_mkt, if_neg hm, ← hx]; rfl
      rw [if_neg (by rw [b2]; exact hm1), b1, b2]
      by_cases h108 : L k = 108
      · rw [if_pos h108]
        exact fin _ (by rw [if_pos (hkd.mp (Or.inr h108))])
      rw [if_neg h108]
      by_cases h115 : L k = 115
      · rw [if_neg (by simp [h115])]
        exact fin _ (by rw [if_pos (hkd.mp (Or.inl h115))])
      · rw [if_pos h115]
        exact fin _ (by rw [if_neg (fun q => by rcases hkd.mpr q with q | q; exact h115 q; exact h108 q)])
