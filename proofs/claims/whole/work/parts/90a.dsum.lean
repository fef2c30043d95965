/-! the numbers of all d together: what rule 2 adds stays small -/
def sc_dc (L F : Nat → Int32) (j : Nat) : Nat := if L j = 100 then (F j).toInt.toNat else 0
def sc_ds (C : Nat → Nat) : Nat → Nat
  | 0 => 0
  | n + 1 => sc_ds C n + C n
def sc_dd (n : Nat) (L F : Nat → Int32) : Prop := (∀ j, j < n → L j = 100 → 0 ≤ (F j).toInt) ∧ sc_ds (sc_dc L F) n ≤ 400000
def sc_Dd (τ : sf_S) : Prop := ∃ n, n ≤ 40 ∧ τ 0 21 = nI n ∧ sc_dd n (τ 11) (τ 13)
theorem sc_ds_pt {C C' : Nat → Nat} : ∀ n, (∀ j, j < n → C' j ≤ C j) → sc_ds C' n ≤ sc_ds C n
  | 0, _ => Nat.le_refl _
  | n + 1, h => Nat.add_le_add (sc_ds_pt n (fun j hj => h j (by omega))) (h n (by omega))
theorem sc_ds_congr {C C' : Nat → Nat} (n : Nat) (h : ∀ j, j < n → C' j = C j) : sc_ds C' n = sc_ds C n :=
  Nat.le_antisymm (sc_ds_pt n (fun j hj => Nat.le_of_eq (h j hj))) (sc_ds_pt n (fun j hj => Nat.le_of_eq (h j hj).symm))
theorem sc_ds_mono {C : Nat → Nat} (a : Nat) : ∀ b, sc_ds C a ≤ sc_ds C (a + b)
  | 0 => Nat.le_refl _
  | b + 1 => Nat.le_trans (sc_ds_mono a b) (Nat.le_add_right _ _)
theorem sc_ds_shift {C C' : Nat → Nat} {b m : Nat} : ∀ N, b ≤ N → (∀ j, b ≤ j → j < N → C' j = C (j + m)) → sc_ds C' N + sc_ds C (b + m) = sc_ds C (N + m) + sc_ds C' b := by
  intro N
  induction N with
  | zero => intro h _; rw [show b = 0 by omega]; omega
  | succ N ih =>
    intro h hL
    by_cases e : b = N + 1
    · rw [← e]; omega
    · have := ih (by omega) (fun j a c => hL j a (by omega))
      rw [show N + 1 + m = (N + m) + 1 by omega, sc_ds, sc_ds, hL N (by omega) (by omega)]
      omega
theorem sc_ds_bd {C : Nat → Nat} {B : Nat} : ∀ n, (∀ j, j < n → C j ≤ B) → sc_ds C n ≤ n * B
  | 0, _ => Nat.zero_le _
  | n + 1, h => by
    rw [sc_ds, Nat.add_mul, Nat.one_mul]
    exact Nat.add_le_add (sc_ds_bd n (fun j hj => h j (by omega))) (h n (by omega))
theorem sc_dd_congr {n : Nat} {L F L' F' : Nat → Int32} (h : sc_dd n L F) (h1 : ∀ j, j < n → L' j = L j ∧ F' j = F j) : sc_dd n L' F' := by
  obtain ⟨a, b⟩ := h
  refine ⟨fun j hj q => ?_, ?_⟩
  · rw [(h1 j hj).2]; exact a j hj (by rw [← (h1 j hj).1]; exact q)
  · rw [sc_ds_congr (C := sc_dc L F) n (fun j hj => by unfold sc_dc; rw [(h1 j hj).1, (h1 j hj).2])]; exact b
theorem sc_dd_0 {n : Nat} {L F : Nat → Int32} (hn : n ≤ 40) (h : ∀ j, j < n → L j = 100 → 0 ≤ (F j).toInt ∧ (F j).toInt < 10000) : sc_dd n L F := by
  refine ⟨fun j hj q => (h j hj q).1, ?_⟩
  have := sc_ds_bd (C := sc_dc L F) (B := 10000) n (fun j hj => by
    unfold sc_dc
    split
    · next q => have := h j hj q; omega
    · omega)
  have : n * 10000 ≤ 40 * 10000 := Nat.mul_le_mul_right _ hn
  omega
theorem sc_Dd.kept {τ τ' : sf_S} (h : sc_Dd τ) (h2 : ∀ a b, ((a = 0 ∧ b = 21) ∨ (11 ≤ a ∧ a ≤ 20)) → τ' a b = τ a b) : sc_Dd τ' := by
  obtain ⟨n, h1, h3, h4⟩ := h
  exact ⟨n, h1, by rw [h2 _ _ (by omega)]; exact h3, sc_dd_congr h4 (fun j _ => ⟨h2 _ _ (by omega), h2 _ _ (by omega)⟩)⟩
