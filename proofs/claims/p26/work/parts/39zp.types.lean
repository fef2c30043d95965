/-! the law types a letter and what it needs -/
def tg_u (x : Int32) (k : Nat) : Nat := x.toBitVec.toNat % 2 ^ 31 % k
theorem tg_u_lt {x : Int32} {k : Nat} (h : 0 < k) : tg_u x k < k := Nat.mod_lt _ h
theorem tg_up {ns k : Nat} {x y : Int32} {σ : sf_S} (hy : y = nI k) (h0 : 0 < k) (hk : k < 2 ^ 31) : dL_up ns x y σ = some (nI (tg_u x k), σ) := by
  unfold dL_up
  rw [hy, if_neg (nI_ne0 h0 hk), pk_and x 31 (by decide +kernel)]
  rw [pk_rem (Nat.mod_lt _ (by decide)) h0 hk]
  rfl
def tg_pu (r : Nat) (b : Int32) (σ : sf_S) : sf_S := sf_up (sf_up σ (r + 47) (σ (r + 46) 2).toNatClampNeg b) (r + 46) 2 (σ (r + 46) 2 + 1)
def tg_ps (r : Nat) : List Int32 → sf_S → sf_S
  | [], σ => σ
  | b :: l, σ => tg_ps r l (tg_pu r b σ)
theorem tg_ps_app (r : Nat) : ∀ (l m : List Int32) (σ : sf_S), tg_ps r (l ++ m) σ = tg_ps r m (tg_ps r l σ)
  | [], _, _ => rfl
  | b :: l, m, σ => tg_ps_app r l m (tg_pu r b σ)
/-- room for n bytes -/
def tg_rm (r n : Nat) (σ : sf_S) : Prop := ∃ m, σ (r + 46) 2 = nI m ∧ m + n ≤ 40
theorem tg_rm.le {r n m : Nat} {σ : sf_S} (h : tg_rm r n σ) (hm : m ≤ n) : tg_rm r m σ := by
  obtain ⟨k, h1, h2⟩ := h
  exact ⟨k, h1, by omega⟩
theorem tg_rm.pu {r n : Nat} {b : Int32} {σ : sf_S} (h : tg_rm r (n + 1) σ) : tg_rm r n (tg_pu r b σ) := by
  obtain ⟨k, h1, h2⟩ := h
  refine ⟨k + 1, ?_, by omega⟩
  unfold tg_pu
  rw [sc_upS, h1, nI_1]
theorem tg_rm.ps {r n : Nat} : ∀ {l : List Int32} {σ : sf_S}, tg_rm r (l.length + n) σ → tg_rm r n (tg_ps r l σ)
  | [], _, h => h.le (by simp only [List.length_nil]; omega)
  | b :: l, σ, h => tg_rm.ps (l := l) (tg_rm.pu (h.le (by simp only [List.length_cons]; omega)))
def tg_by (b : Int32) : Prop := ∃ m, m ≤ 255 ∧ b = nI m
theorem sf_pt_up {r k j : Nat} {v : Int32} {σ τ : sf_S} (hk : k < 59) : sf_pt r σ (sf_up τ k j v) = sf_up (sf_pt r σ τ) (r + k) j v := by
  funext a b
  unfold sf_pt sf_up
  by_cases h1 : r ≤ a ∧ a < r + 59
  · rw [if_pos h1]
    by_cases h2 : a = r + k ∧ b = j
    · rw [if_pos h2, if_pos (by omega)]
    · rw [if_neg h2, if_neg (by omega)]
      exact (if_pos h1).symm
  · rw [if_neg h1, if_neg (by omega)]
    exact (if_neg h1).symm
theorem tg_type {r n : Nat} {b : Int32} {σ : sf_S} (h : tg_rm r (n + 1) σ) (hb : tg_by b) : ∃ v, v < 40 ∧ dW_type r b σ = some (nI (v + 1), tg_pu r b σ) := by
  obtain ⟨k, h1, h2⟩ := h
  obtain ⟨m, m1, rfl⟩ := hb
  have h46 : sf_sl r σ 46 2 = nI k := by rw [← h1]; unfold sf_sl; rw [Nat.add_comm]
  refine ⟨k, by omega, ?_⟩
  have e : dX11_type (nI m) (sf_sl r σ) = some (nI (k + 1), sf_up (sf_up (sf_sl r σ) 47 k (nI m)) 46 2 (nI (k + 1))) := by
    unfold dX11_type dX4_append
    rw [if_neg (nI_pos (by omega)), if_pos (by rw [show (255 : Int32) = nI 255 from by decide +kernel]; exact nI_le m1 (by omega)), h46, if_pos (by rw [sc_c40]; exact nI_lt (by omega) (by omega))]
    simp only []
    rw [if_pos (sc_inI (by omega) (by omega)), sc_cl (by omega), sc_upK (by omega), h46, nI_1]
    simp only [Option.bind_some]
    rw [if_neg (by decide), sc_upS]
  refine (tq_on e).trans ?_
  rw [sf_pt_up (by omega), sf_pt_up (by omega), sf_pt_id]
  unfold tg_pu
  rw [h1, sc_cl (by omega), nI_1]
theorem tg_ty {r n : Nat} {b : Int32} {σ : sf_S} {α : Type} {f g : sf_S → Option α} (h : tg_rm r (n + 1) σ) (hb : tg_by b) : ((dW_type r b σ).bind fun u => if u.1 ≤ 0 then f u.2 else g u.2) = g (tg_pu r b σ) := by
  obtain ⟨v, h1, h2⟩ := tg_type h hb
  rw [h2]
  simp only [Option.bind_some]
  rw [if_neg (by rw [sc_0, nI_leI (by omega) (by omega)]; omega)]
theorem tg_by_dig {v : Nat} (h : v ≤ 9) : tg_by (nI (48 + v)) := ⟨48 + v, by omega, rfl⟩
theorem tg_by_c {b : Nat} (h : b ≤ 255) : tg_by (nI b) := ⟨b, h, rfl⟩
theorem tg_by_il {c : Int32} (h : sc_il c = true) : tg_by c := by
  rcases sc_il_cases h with q | q | q | q | q | q | q | q | q | q | q | q | q | q | q | q | q | q <;> subst q <;> exact ⟨_, by decide, rfl⟩
theorem tg_366 {ns r v : Nat} {K : Int32 → Int32 → Int32 → Int32 → Int32 → sf_S → Option (Int32 × sf_S)} {x1 x2 x5 x6 y0 y1 : Int32} {σ : sf_S} (h : tg_rm r 2 σ) (hv : v ≤ 9) : dL_types_366 ns r K x1 x2 x5 x6 (nI v) y0 y1 σ = K x1 x2 (y1 + y0 + 2) x5 (x6 + 1) (tg_ps r [nI (48 + v), 59] σ) := by
  unfold dL_types_366
  simp only []
  rw [sc_c48, nI_add]
  refine (tg_ty (f := fun s => K x1 x2 (y1 + y0 + (-100 : Int32)) x5 (x6 + (1 : Int32)) s) (g := fun s => (dW_type r (59 : Int32) s).bind fun u3 => if u3.1 ≤ 0 then K x1 x2 (y1 + y0 + (-100 : Int32)) x5 (x6 + (1 : Int32)) u3.2 else K x1 x2 (y1 + y0 + (2 : Int32)) x5 (x6 + (1 : Int32)) u3.2) h (tg_by_dig hv)).trans ?_
  exact tg_ty (f := fun s => K x1 x2 (y1 + y0 + (-100 : Int32)) x5 (x6 + (1 : Int32)) s) (g := fun s => K x1 x2 (y1 + y0 + (2 : Int32)) x5 (x6 + (1 : Int32)) s) (tg_rm.pu h) ⟨59, by omega, by decide +kernel⟩
theorem tg_339 {ns r v x3 : Nat} {K : Int32 → Int32 → Int32 → Int32 → Int32 → sf_S → Option (Int32 × sf_S)} {x1 x2 x5 x6 : Int32} (s : Bool) {σ : sf_S} (h : tg_rm r 3 σ) (hv : v ≤ 9) : dL_types_339 ns r K x1 x2 (nI x3) x5 x6 (nI v) (sc_b s) σ = K x1 x2 (nI (x3 + (tg_nt s v).length)) x5 (x6 + 1) (tg_ps r (tg_nt s v) σ) := by
  unfold dL_types_339
  cases s
  · rw [if_neg (by decide), tg_366 (h.le (by omega)) hv]
    show K x1 x2 (nI x3 + 0 + 2) x5 (x6 + 1) _ = K x1 x2 (nI (x3 + 2)) x5 (x6 + 1) _
    rw [sc_0, nI_add, show (2 : Int32) = nI 2 from by decide +kernel, nI_add]; rfl
  · rw [if_pos (by decide)]
    refine (tg_ty (f := fun s => dL_types_366 ns r K x1 x2 x5 x6 (nI v) (-100 : Int32) (nI x3) s) (g := fun s => dL_types_366 ns r K x1 x2 x5 x6 (nI v) (1 : Int32) (nI x3) s) h ⟨45, by omega, by decide +kernel⟩).trans ?_
    rw [tg_366 h.pu hv]
    show K x1 x2 (nI x3 + 1 + 2) x5 (x6 + 1) _ = K x1 x2 (nI (x3 + 3)) x5 (x6 + 1) _
    rw [nI_1, show (2 : Int32) = nI 2 from by decide +kernel, nI_add]; rfl
theorem tg_287 (ns : Nat) (c q : Int32) {v : Nat} (hv : v ≤ 9) : ∃ s : Bool, (s = true → 1 ≤ v ∧ sc_sm c = false ∧ sc_wh c = false) ∧ ∀ (r x3 : Nat) (K : Int32 → Int32 → Int32 → Int32 → Int32 → sf_S → Option (Int32 × sf_S)) (x5 x6 : Int32) (σ : sf_S), tg_rm r 3 σ → dL_types_287 ns r K c q (nI x3) x5 x6 (nI v) σ = K c q (nI (x3 + (tg_nt s v).length)) x5 (x6 + 1) (tg_ps r (tg_nt s v) σ) := by
  have no : ∀ (P : Prop), (P → False) → False = P → True := fun _ _ _ => trivial
  have hf : ∀ (Q : ∀ (r x3 : Nat) (K : Int32 → Int32 → Int32 → Int32 → Int32 → sf_S → Option (Int32 × sf_S)) (x5 x6 : Int32) (σ : sf_S), dL_types_287 ns r K c q (nI x3) x5 x6 (nI v) σ = dL_types_339 ns r K c q (nI x3) x5 x6 (nI v) 0 σ), ∃ s : Bool, (s = true → 1 ≤ v ∧ sc_sm c = false ∧ sc_wh c = false) ∧ ∀ (r x3 : Nat) (K : Int32 → Int32 → Int32 → Int32 → Int32 → sf_S → Option (Int32 × sf_S)) (x5 x6 : Int32) (σ : sf_S), tg_rm r 3 σ → dL_types_287 ns r K c q (nI x3) x5 x6 (nI v) σ = K c q (nI (x3 + (tg_nt s v).length)) x5 (x6 + 1) (tg_ps r (tg_nt s v) σ) :=
    fun Q => ⟨false, fun e => Bool.noConfusion e, fun r x3 K x5 x6 σ h => (Q r x3 K x5 x6 σ).trans (tg_339 false h hv)⟩
  by_cases h1 : c = 37
  · exact hf fun r x3 K x5 x6 σ => by unfold dL_types_287; rw [if_pos h1]
  by_cases h2 : c = 107
  · exact hf fun r x3 K x5 x6 σ => by unfold dL_types_287; rw [if_neg h1, if_pos h2]
  by_cases h3 : c = 116
  · exact hf fun r x3 K x5 x6 σ => by unfold dL_types_287; rw [if_neg h1, if_neg h2, if_pos h3]
  by_cases h4 : c = 100
  · exact hf fun r x3 K x5 x6 σ => by unfold dL_types_287; rw [if_neg h1, if_neg h2, if_neg h3, if_pos h4]
  by_cases h5 : nI v ≤ 0
  · exact hf fun r x3 K x5 x6 σ => by unfold dL_types_287; rw [if_neg h1, if_neg h2, if_neg h3, if_neg h4, if_pos h5]
  by_cases h6 : (4 : Int32) ≤ nI v
  · exact hf fun r x3 K x5 x6 σ => by unfold dL_types_287; rw [if_neg h1, if_neg h2, if_neg h3, if_neg h4, if_neg h5, if_pos h6]
  by_cases h7 : ((q >>> ((15 : Int32) &&& 31)) &&& (1 : Int32)) = (1 : Int32)
  · refine ⟨true, fun _ => ⟨?_, by simp [sc_sm, h3, h4], by simp [sc_wh, h1, h2]⟩, fun r x3 K x5 x6 σ h => ?_⟩
    · rw [sc_0, nI_leI (by omega) (by omega)] at h5; omega
    · unfold dL_types_287
      rw [if_neg h1, if_neg h2, if_neg h3, if_neg h4, if_neg h5, if_neg h6, if_neg (by simp only [Classical.not_not]; exact h7)]
      exact tg_339 true h hv
  · exact hf fun r x3 K x5 x6 σ => by unfold dL_types_287; rw [if_neg h1, if_neg h2, if_neg h3, if_neg h4, if_neg h5, if_neg h6, if_pos h7]
theorem tg_F2 : ∃ f, sf_F = f + 1 + 1 + 1 := ⟨sf_F - 3, by have := sf_F_le; omega⟩
theorem tg_nt_len {s : Bool} {v : Nat} : (tg_nt s v).length ≤ 3 := by
  cases s
  · exact (show 2 ≤ 3 by omega)
  · exact (show 3 ≤ 3 by omega)
theorem tg_nn_le (c : Int32) : sc_nn c ≤ 2 := by
  unfold sc_nn
  repeat' split
  all_goals omega
/-- the first number -/
theorem tg_first (ns : Nat) (c q : Int32) : ∃ x l, tg_nb c x l ∧ l.length ≤ 3 ∧ ∀ (r x3 n : Nat) (x5 : Int32) (σ : sf_S), ¬ x5 ≤ 0 → tg_rm r 3 σ → dL_types_229 ns r (n + 1) c q (nI x3) x5 0 σ = dL_types_229 ns r n c q (nI (x3 + l.length)) x5 1 (tg_ps r l σ) := by
  have h01 : (0 : Int32) + 1 = 1 := by decide
  by_cases h1 : c = 37
  · have hu := tg_u_lt (x := q >>> ((7 : Int32) &&& 31)) (show 0 < 5 by omega)
    generalize hw : tg_u (q >>> ((7 : Int32) &&& 31)) 5 = w at hu
    obtain ⟨s, hs, hk⟩ := tg_287 ns c q (show 1 + w ≤ 9 by omega)
    refine ⟨tg_nv s (1 + w), tg_nt s (1 + w), ⟨s, 1 + w, by omega, hs, fun _ => by omega, rfl, rfl⟩, tg_nt_len, fun r x3 n x5 σ h5 h => ?_⟩
    simp only [dL_types_229]
    rw [if_neg h5, if_pos h1, tg_up (k := 5) (by decide +kernel) (by omega) (by omega), hw]
    simp only [Option.bind_some]
    rw [sc_1, nI_add, ← sc_1, hk r x3 _ x5 0 σ h, h01]
  by_cases h2 : c = 107
  · have hu := tg_u_lt (x := q >>> ((7 : Int32) &&& 31)) (show 0 < 5 by omega)
    generalize hw : tg_u (q >>> ((7 : Int32) &&& 31)) 5 = w at hu
    obtain ⟨s, hs, hk⟩ := tg_287 ns c q (show 1 + w ≤ 9 by omega)
    refine ⟨tg_nv s (1 + w), tg_nt s (1 + w), ⟨s, 1 + w, by omega, hs, fun _ => by omega, rfl, rfl⟩, tg_nt_len, fun r x3 n x5 σ h5 h => ?_⟩
    simp only [dL_types_229]
    rw [if_neg h5, if_neg h1, if_neg (by simp only [Classical.not_not]; exact h2), tg_up (k := 5) (by decide +kernel) (by omega) (by omega), hw]
    simp only [Option.bind_some]
    rw [sc_1, nI_add, ← sc_1, hk r x3 _ x5 0 σ h, h01]
  · have hu := tg_u_lt (x := q >>> ((7 : Int32) &&& 31)) (show 0 < 7 by omega)
    generalize hw : tg_u (q >>> ((7 : Int32) &&& 31)) 7 = w at hu
    obtain ⟨s, hs, hk⟩ := tg_287 ns c q (show w ≤ 9 by omega)
    refine ⟨tg_nv s w, tg_nt s w, ⟨s, w, by omega, hs, fun e => by simp [sc_wh, h1, h2] at e, rfl, rfl⟩, tg_nt_len, fun r x3 n x5 σ h5 h => ?_⟩
    simp only [dL_types_229]
    rw [if_neg h5, if_neg h1, if_pos h2, if_neg (by decide), tg_up (k := 7) (by decide +kernel) (by omega) (by omega), hw]
    simp only [Option.bind_some]
    rw [hk r x3 _ x5 0 σ h, h01]
theorem tg_second (ns : Nat) (c q : Int32) (hc : c = 105 ∨ c = 114) : ∃ x l, tg_nb c x l ∧ l.length ≤ 3 ∧ ∀ (r x3 n : Nat) (σ : sf_S), tg_rm r 3 σ → dL_types_229 ns r (n + 1) c q (nI x3) 2 1 σ = dL_types_229 ns r n c q (nI (x3 + l.length)) 2 2 (tg_ps r l σ) := by
  have h12 : (1 : Int32) + 1 = 2 := by decide
  have hu := tg_u_lt (x := q >>> ((11 : Int32) &&& 31)) (show 0 < 10 by omega)
  generalize hw : tg_u (q >>> ((11 : Int32) &&& 31)) 10 = w at hu
  obtain ⟨s, hs, hk⟩ := tg_287 ns c q (show w ≤ 9 by omega)
  refine ⟨tg_nv s w, tg_nt s w, ⟨s, w, by omega, hs, fun e => by rcases hc with h | h <;> subst h <;> exact absurd e (by decide), rfl, rfl⟩, tg_nt_len, fun r x3 n σ h => ?_⟩
  simp only [dL_types_229]
  rw [if_neg (by decide), if_neg (by rcases hc with h | h <;> subst h <;> decide), if_pos (by rcases hc with h | h <;> subst h <;> decide), if_pos (by decide), tg_up (k := 10) (by decide +kernel) (by omega) (by omega), hw]
  simp only [Option.bind_some]
  rw [hk r x3 _ 2 1 σ h, h12]
/-- the numbers -/
theorem tg_229 (ns : Nat) (c q : Int32) (hil : sc_il c = true) : ∃ x1 x2 l1 l2, (if 0 < sc_nn c then tg_nb c x1 l1 else x1 = 0 ∧ l1 = []) ∧ (if 1 < sc_nn c then tg_nb c x2 l2 else x2 = 0 ∧ l2 = []) ∧ ∀ (r x3 : Nat) (σ : sf_S), tg_rm r 6 σ → dL_types_229 ns r sf_F c q (nI x3) (nI (sc_nn c)) 0 σ = some (nI (x3 + (l1 ++ l2).length), tg_ps r (l1 ++ l2) σ) := by
  obtain ⟨f, hf⟩ := tg_F2
  rw [hf]
  have hn := tg_nn_le c
  rcases (by omega : sc_nn c = 0 ∨ sc_nn c = 1 ∨ sc_nn c = 2) with hn | hn | hn
  · refine ⟨0, 0, [], [], by rw [hn, if_neg (by omega)]; exact ⟨rfl, rfl⟩, by rw [hn, if_neg (by omega)]; exact ⟨rfl, rfl⟩, fun r x3 σ h => ?_⟩
    rw [hn]
    simp only [dL_types_229]
    rw [if_pos (by decide +kernel)]; rfl
  · obtain ⟨x, l, h1, h2, h3⟩ := tg_first ns c q
    refine ⟨x, 0, l, [], by rw [hn, if_pos (by omega)]; exact h1, by rw [hn, if_neg (by omega)]; exact ⟨rfl, rfl⟩, fun r x3 σ h => ?_⟩
    rw [hn, h3 r x3 _ _ σ (by decide +kernel) (h.le (by omega)), List.append_nil]
    simp only [dL_types_229]
    rw [if_pos (by decide +kernel)]
  · have hc : c = 105 ∨ c = 114 := by
      rcases sc_il_cases hil with q | q | q | q | q | q | q | q | q | q | q | q | q | q | q | q | q | q <;> subst q <;> first | exact Or.inl rfl | exact Or.inr rfl | exact absurd hn (by decide +kernel)
    obtain ⟨x, l, h1, h2, h3⟩ := tg_first ns c q
    obtain ⟨y, m, g1, g2, g3⟩ := tg_second ns c q hc
    refine ⟨x, y, l, m, by rw [hn, if_pos (by omega)]; exact h1, by rw [hn, if_pos (by omega)]; exact g1, fun r x3 σ h => ?_⟩
    rw [hn, h3 r x3 _ _ σ (by decide +kernel) (h.le (by omega)), show nI 2 = 2 from by decide +kernel, g3 r _ _ _ (tg_rm.ps (h.le (by omega)))]
    simp only [dL_types_229]
    rw [if_pos (by decide), tg_ps_app, List.length_append, Nat.add_assoc]
