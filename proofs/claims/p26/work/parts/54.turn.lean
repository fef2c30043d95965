/-! a turn's world: two fresh objects, and the script -/
theorem sw_cell {D : va_G} {H : Heap} {ad ad' : Nat → Nat} {cy : Nat → ClassId} {σ σ' : sf_S} {k x : Nat} {sh : (Nat × List (Option Nat)) ⊕ (Nat × Nat)} (h1 : ∀ c fs, sh = .inl (c, fs) → ∀ q, some q ∈ fs → ad' q = ad q) (h2 : ∀ j, j < sd_size sh → σ' k j = σ k j) (h : va_at D vwCl (x, sf_ce ad cy σ k sh) H) : va_at D vwCl (x, sf_ce ad' cy σ' k sh) H := by
  rcases sh with ⟨c, fs⟩ | ⟨t, n⟩
  · have e : sf_ce ad' cy σ' k (.inl (c, fs)) = sf_ce ad cy σ k (.inl (c, fs)) := by
      simp only [sf_ce]
      congr 2
      apply List.ext_getElem?
      intro i
      simp only [List.getElem?_mapIdx]
      cases hf : fs[i]? with
      | none => rfl
      | some f =>
        simp only [Option.map_some]
        congr 1
        have hi := (List.getElem?_eq_some_iff.mp hf).1
        cases f with
        | none => simp only [sf_fv]; rw [h2 i hi]
        | some q => simp only [sf_fv]; rw [h1 c fs rfl q (List.mem_of_getElem? hf)]
    rw [e]; exact h
  · have e : vp_cell (cy t) (n, .inl (σ' k)) = vp_cell (cy t) (n, .inl (σ k)) := by
      rw [vp_cell_i, vp_cell_i]
      unfold arrV
      congr 2
      funext j
      show Value.int (σ' k j.val) = Value.int (σ k j.val)
      rw [h2 j.val j.isLt]
    show H[x]? = some (vp_cell (cy t) (n, .inl (σ' k)))
    rw [e]; exact h
theorem sd_rfs : sd_lay2.all (fun sh => match sh with
  | .inl (_, fs) => fs.all fun f => match f with
    | some q => decide (q < 118)
    | none => true
  | .inr _ => true) = true := by decide +kernel
theorem sd_rf2 {k c q : Nat} {fs : List (Option Nat)} (h : sd_lay2[k]? = some (.inl (c, fs))) (hq : some q ∈ fs) : q < 118 := by
  have h1 := List.all_eq_true.mp sd_rfs _ (List.mem_of_getElem? h)
  have h2 := List.all_eq_true.mp h1 _ hq
  exact of_decide_eq_true h2
theorem sd_lay2_len : sd_lay2.length = 118 := by decide +kernel
theorem sw_lay (ns : Nat) {k : Nat} (hk : k < 118) : (sf_layW ns)[k]? = sd_lay2[k]? := by
  rw [sf_layW_eq, ← List.append_assoc]
  exact List.getElem?_append_left (by rw [show (sf_layC.map (sf_shl 0) ++ sf_layC.map (sf_shl 59)).length = 118 from sd_lay2_len]; exact hk)
theorem sw_lay118 (ns : Nat) : (sf_layW ns)[118]? = some (.inr (0, ns)) := by
  have h : (sf_layC.map (sf_shl 0) ++ sf_layC.map (sf_shl 59)).length = 118 := sd_lay2_len
  rw [sf_layW_eq, ← List.append_assoc, List.getElem?_append_right (by rw [h]; exact Nat.le_refl _), h]
  rfl
def sw_ad (as : Nat → Nat) (b : Nat) : Nat → Nat := fun k => if k < 118 then sd_ad sd_pm2 as k else b
def sw_σ (xs : Nat → Int32) : sf_S := fun k j => if k = 118 then xs j else sf_x2 k j
theorem sw_P {D : va_G} {cy : Nat → ClassId} {as : Nat → Nat} {H : Heap} {b L : Nat} {xs : Nat → Int32} {s : State} (hP : va_P D vwCl (sf_wd sd_lay2 (sd_ad sd_pm2 as) cy (sd_st sd_pm2 sf_bD)) H) (hX : va_X b L xs s H) : so_P (sf_layW L) D cy (sw_ad as b) (sw_σ xs) s H := by
  refine ⟨fun k z hz => ?_, 118, L, by rw [sf_layW_len], sw_lay118 L, ?_⟩
  · obtain ⟨hk0, hz⟩ := sf_wd_dli hz
    rw [sf_layW_len] at hk0
    have hk : k < 118 := by omega
    have e1 : sd_lay2[k]? = some (sd_lay2[k]'(by rw [sd_lay2_len]; exact hk)) := List.getElem?_eq_getElem _
    have e2 := (sw_lay L hk).trans e1
    rw [sf_wd_at e2] at hz
    cases hz
    have h := hP k _ (sf_wd_at e1)
    have ek : sw_ad as b k = sd_ad sd_pm2 as k := if_pos hk
    rw [ek]
    refine sw_cell (fun c fs hs q hq => ?_) (fun j hj => ?_) h
    · rw [hs] at e1
      exact if_pos (sd_rf2 e1 hq)
    · rw [sf_joint_at k _ e1 j hj]
      exact if_neg (by omega)
  · have e1 : sw_ad as b 118 = b := if_neg (by omega)
    have e2 : sw_σ xs 118 = xs := by funext j; exact if_pos rfl
    rw [e1, e2]; exact hX
theorem sw_inj {as : Nat → Nat} {b L sz : Nat} (hi : sf_inj sd_lay2 (sd_ad sd_pm2 as)) (hA : ∀ k, k < sd_lay2.length → sz ≤ sd_ad sd_pm2 as k) (hb : b < sz) : sf_inj (sf_layW L) (sw_ad as b) := by
  rw [sd_lay2_len] at hA
  intro i j h1 h2 he
  rw [sf_layW_len] at h1 h2
  unfold sw_ad at he
  by_cases hi' : i < 118
  · rw [if_pos hi'] at he
    by_cases hj' : j < 118
    · rw [if_pos hj'] at he
      exact hi i j (by rw [sd_lay2_len]; exact hi') (by rw [sd_lay2_len]; exact hj') he
    · rw [if_neg hj'] at he
      have := hA i hi'
      omega
  · rw [if_neg hi'] at he
    by_cases hj' : j < 118
    · rw [if_pos hj'] at he
      have := hA j hj'
      omega
    · omega
/-- the law's turn answers, on two fresh objects -/
theorem sw_law {L t : Nat} (hL : L ≤ 260) (ht : t ≤ 2) (xs : Nat → Int32) : ∃ σ', dL_law L (nI t) (sw_σ xs) = some (nI t, σ') := by
  have h0 : ∀ k j, k < 118 → sw_σ xs k j = sf_x2 k j := fun k j hk => if_neg (by omega)
  refine tg_law hL ht ⟨0, by omega, ?_⟩ ⟨0, by omega, ?_⟩ ?_ (fun b => ?_) (fun b => ?_)
  · rw [h0 _ _ (by omega)]; decide +kernel
  · rw [h0 _ _ (by omega)]; decide +kernel
  · unfold sf_sl
    rw [h0 _ _ (by omega)]; decide +kernel
  · unfold sf_sl
    rw [h0 _ _ (by omega), h0 _ _ (by omega)]; rfl
  · unfold sf_sl
    rw [h0 _ _ (by omega), h0 _ _ (by omega)]; rfl
/-! the law makes two objects -/
theorem sw_fs : ([.null, .null, .null, .null, .null, .null, .null, .null, .null, .null, .null, .null, .null, .int 0] : List Value).length = 14 := rfl
theorem sw_openA {p : Program} {l : Launch} {e : Env} {s : State} {m : MethodId} {args : Array Value} {below : List Frame} {meth : Method} {c : Code} {Q : State → Prop} {D : va_G} {cy : Nat → ClassId} {A : Nat → Prop} {n0 k1 k2 : Nat} {as0 : Nat → Nat} {Pl : Array Slot → Prop} (h1 : k1 ≤ 500) (h2 : k2 ≤ 100000) (h0 : sd_At p s m args c "StreamFuserLaw" code 20 D cy A) (hN : ∀ w ∈ sf_N, va_Nw w s)
    (k : sd_Wl Pl p l e room_1 s m args below meth c Q 20 D cy A n0 as0 14 [] [.ref 0] sf_DC (k1 + 1 + 58) (k2 + 14 + 4687)) : sd_Wl Pl p l e room_1 s m args below meth c Q 20 D cy A n0 as0 7 [] [] [] k1 k2 := by
  refine sd_rowl_new (ci := 9) (C := RX11) (T := TX11) (N := 14) (ty0 := tyX11) (fs := [.null, .null, .null, .null, .null, .null, .null, .null, .null, .null, .null, .null, .null, .int 0]) (idx := 10) h0 rfl rfl sf_in11 tyX11_ok (by decide +kernel) (by decide +kernel) (by decide +kernel) (by decide +kernel) rfl (by simp) (show k1 + 1 ≤ 600000 by omega) (show k2 + 14 ≤ 7302250 by omega) (by decide +kernel) ?_
  rw [sw_fs]
  refine sd_Wl.go (pc2 := 11) (st2 := [.ref 0, .ref 0]) ?_ (fun as H locs ls hp hl w => lv_dup h0.1 h0.2.1 (by decide +kernel) rfl w)
  have hj := sd_jel_I (Pl := Pl) (own := "StreamFuserLaw") (cc := code) (nL := 20) (idx := 71) (pc := 11) (n := 0) (rm := room_1) (kX11_init l) ⟨rfl, rfl⟩ (by decide +kernel) rfl (by decide +kernel) (by decide +kernel) (by decide +kernel) (Or.inl (by decide +kernel)) ⟨by decide +kernel, by decide +kernel⟩ (by decide +kernel) (by decide) (by decide) fX11_ref
  exact sd_make hj h0 hN sf_endC.1 rfl (show k1 + 1 + 58 ≤ 600000 by omega) (show k2 + 14 + 4687 ≤ 7302250 by omega) k
theorem sw_openB {p : Program} {l : Launch} {e : Env} {s : State} {m : MethodId} {args : Array Value} {below : List Frame} {meth : Method} {c : Code} {Q : State → Prop} {D : va_G} {cy : Nat → ClassId} {A : Nat → Prop} {n0 k1 k2 : Nat} {as0 : Nat → Nat} {Pl : Array Slot → Prop} {Δ Δ2 : sd_D} (h1 : k1 ≤ 500) (h2 : k2 ≤ 100000) (hlen : Δ.length = 59) (hb1 : sd_b [] [] Δ = true) (hb : sd_b [] [.ref 59, .ref 59] (Δ ++ sd_startC) = true) (hF : fX11_init [.ref 59] (Δ ++ sd_startC) = some (Δ2, 58, 4687)) (h0 : sd_At p s m args c "StreamFuserLaw" code 20 D cy A) (hN : ∀ w ∈ sf_N, va_Nw w s)
    (k : sd_Wl Pl p l e room_1 s m args below meth c Q 20 D cy A n0 as0 22 [] [.ref 59] Δ2 (k1 + 1 + 58) (k2 + 14 + 4687)) : sd_Wl Pl p l e room_1 s m args below meth c Q 20 D cy A n0 as0 15 [] [] Δ k1 k2 := by
  refine sd_rowl_new (ci := 9) (C := RX11) (T := TX11) (N := 14) (ty0 := tyX11) (fs := [.null, .null, .null, .null, .null, .null, .null, .null, .null, .null, .null, .null, .null, .int 0]) (idx := 10) h0 hb1 rfl sf_in11 tyX11_ok (by decide +kernel) (by decide +kernel) (by decide +kernel) (by decide +kernel) rfl (by simp) (show k1 + 1 ≤ 600000 by omega) (show k2 + 14 ≤ 7302250 by omega) (by decide +kernel) ?_
  rw [sw_fs, hlen]
  refine sd_Wl.go (pc2 := 19) (st2 := [.ref 59, .ref 59]) ?_ (fun as H locs ls hp hl w => lv_dup h0.1 h0.2.1 (by decide +kernel) rfl w)
  have hj := sd_jel_I (Pl := Pl) (own := "StreamFuserLaw") (cc := code) (nL := 20) (idx := 71) (pc := 19) (n := 0) (rm := room_1) (kX11_init l) ⟨rfl, rfl⟩ (by decide +kernel) rfl (by decide +kernel) (by decide +kernel) (by decide +kernel) (Or.inl (by decide +kernel)) ⟨by decide +kernel, by decide +kernel⟩ (by decide +kernel) (by decide) (by decide) fX11_ref
  exact sd_make hj h0 hN hF hb (show k1 + 1 + 58 ≤ 600000 by omega) (show k2 + 14 + 4687 ≤ 7302250 by omega) k
