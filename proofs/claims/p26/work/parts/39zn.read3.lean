/-! the reader reads a whole pipe -/
def tg_run : List tt_C → List Int32 → List Nat → Prop
  | [], bs, X => bs = [] ∧ X = []
  | c :: Ns, bs, X => ∃ b1 b2 a X', bs = b1 ++ b2 ∧ X = a :: X' ∧ tg_N c b1 ∧ ¬ (sc_uv c.1 = true ∧ a = 0) ∧ tg_run Ns b2 (sc_push c.1 a X')
theorem sc_push_len (c : Int32) (a : Nat) (X : List Nat) : X.length ≤ (sc_push c a X).length ∧ (sc_push c a X).length ≤ X.length + 2 := by
  unfold sc_push
  split
  all_goals first | omega | (simp only [List.length_cons]; omega)
theorem sc_push_le {c : Int32} {a m : Nat} {X : List Nat} (h : ∀ x ∈ a :: X, x ≤ m) : ∀ x ∈ sc_push c a X, x ≤ m + 1 := by
  have ha : a ≤ m := h a (List.mem_cons_self ..)
  have hX : ∀ x ∈ X, x ≤ m := fun x hx => h x (List.mem_cons_of_mem _ hx)
  intro x hx
  unfold sc_push at hx
  split at hx
  · have := hX x hx; omega
  · rcases List.mem_cons.mp hx with rfl | hx
    · omega
    · have := hX x hx; omega
  · rcases List.mem_cons.mp hx with e | hx
    · split at e <;> omega
    · rcases List.mem_cons.mp hx with rfl | hx
      · omega
      · have := hX x hx; omega
theorem tg_N.len {c : tt_C} {l : List Int32} (h : tg_N c l) : 1 ≤ l.length := by
  obtain ⟨-, lm, l1, l2, rfl, -⟩ := h
  simp only [List.length_cons]; omega
theorem tg_run.len : ∀ {Ns : List tt_C} {bs : List Int32} {X : List Nat}, tg_run Ns bs X → X.length ≤ Ns.length ∧ Ns.length ≤ bs.length
  | [], bs, X, ⟨e1, e2⟩ => by subst e1; subst e2; exact ⟨Nat.le_refl _, Nat.le_refl _⟩
  | c :: Ns, bs, X, ⟨b1, b2, a, X', e1, e2, hN, _, h⟩ => by
    subst e1; subst e2
    have h1 := h.len
    have h2 := hN.len
    have h3 := (sc_push_len c.1 a X').1
    simp only [List.length_cons, List.length_append]
    omega
theorem tg_readL : ∀ (Ns : List tt_C) (bs B : List Int32) (X : List Nat) (p fuel : Nat) (D : List tt_C) (σ : sf_S), tg_run Ns bs X → Ns.length < fuel → tg_B B p σ → tg_at B p bs → p + bs.length = B.length → tk_R 36 D σ → D.length + Ns.length ≤ 40 → σ 46 4 = nI X.length → sc_due (σ 48) X → (∀ a ∈ X, a ≤ D.length) →
    ∃ σ', dX4_read_30 fuel (nI D.length) σ = some (-1, σ') ∧ tk_R 36 (D ++ Ns) σ' ∧ ∀ x y, ¬ ((36 ≤ x ∧ x ≤ 40) ∨ (x = 46 ∧ y ≠ 2) ∨ x = 48) → σ' x y = σ x y
  | [], bs, B, X, p, fuel, D, σ, ⟨e1, e2⟩, hf, hB, hat, hp, hD, hn, h4, hdue, hX => by
    subst e1; subst e2
    obtain ⟨f, rfl⟩ : ∃ f, fuel = f + 1 := ⟨fuel - 1, by omega⟩
    have hp : p = B.length := hp
    obtain ⟨b1, b2, b3, b4, b5, b6⟩ := hB
    simp only [List.length_nil, Nat.add_zero] at hn
    refine ⟨σ, ?_, by rw [List.append_nil]; exact hD, fun _ _ _ => rfl⟩
    simp only [dX4_read_30]
    rw [if_neg (by rw [sc_c40]; exact nI_nlt hn (by omega)), h4, if_pos (by decide +kernel)]
    unfold dX4_read_61
    rw [if_neg (by rw [b6]; simp), b3, b5, if_pos (nI_le (by omega) (by omega)), b6]
  | c :: Ns, bs, B, X, p, fuel, D, σ, ⟨b1, b2, a, X', e1, e2, hN, huv, hrun⟩, hf, hB, hat, hp, hD, hn, h4, hdue, hX => by
    subst e1; subst e2
    obtain ⟨f, rfl⟩ : ∃ f, fuel = f + 1 := ⟨fuel - 1, by omega⟩
    simp only [List.length_cons] at hn hf
    obtain ⟨hat1, hat2⟩ := tg_at_app hat
    rw [List.length_append] at hp
    have hl1 := hrun.len
    have hl2 := hN.len
    have hl3 := (sc_push_len c.1 a X').1
    have hB1 := hB.1
    have ha : a ≤ D.length := hX a (List.mem_cons_self ..)
    obtain ⟨u, u1, u2, u3, u4, u5, u6⟩ := tg_node hN huv (by omega) hB hat1 (by omega) hD (by omega) (S := X') (by omega) h4 hdue
    obtain ⟨v, v1, v2, v3⟩ := tg_readL Ns b2 B (sc_push c.1 a X') (p + b1.length) f (D ++ [c]) u hrun (by omega) u2 hat2 (by omega) u3 (by simp only [List.length_append, List.length_cons, List.length_nil]; omega) u4 u5 (fun x hx => by
      have := sc_push_le hX x hx
      simp only [List.length_append, List.length_cons, List.length_nil]; omega)
    refine ⟨v, ?_, by rw [List.append_assoc] at v2; exact v2, fun x y hxy => by rw [v3 x y hxy, u6 x y hxy]⟩
    simp only [dX4_read_30]
    rw [if_neg (by rw [sc_c40]; exact nI_nlt (by omega) (by omega)), h4, if_neg (by rw [sc_0, nI_leI (by simp only [List.length_cons]; omega) (by omega)]; simp), if_neg (by rw [hB.2.2.2.2.2]; simp), u1]
    simp only [Option.bind_some, nI_1]
    rw [List.length_append] at v1
    exact v1
/-- the text of o, or p -/
def tg_T (B : List Int32) (σ : sf_S) : Prop := B.length ≤ 40 ∧ σ 46 2 = nI B.length ∧ ∀ j x, B[j]? = some x → σ 47 j = x
theorem tg_read {Ns : List tt_C} {B : List Int32} {σ : sf_S} (hrun : tg_run Ns B [0]) (hT : tg_T B σ) : ∃ σ', dX4_read σ = some (-1, σ') ∧ tk_R 36 Ns σ' ∧ tg_T B σ' ∧ ∀ x y, ¬ ((36 ≤ x ∧ x ≤ 40) ∨ (x = 46 ∧ y ≠ 2) ∨ x = 48) → σ' x y = σ x y := by
  have hF := sf_F_le
  obtain ⟨t1, t2, t3⟩ := hT
  have hlen := hrun.len
  generalize hs : sf_up (sf_up (sf_up (sf_up σ 36 4 0) 46 5 0) 46 6 (-1)) 46 4 0 = s
  have hsn : ∀ x y, ¬ ((x = 36 ∧ y = 4) ∨ (x = 46 ∧ (y = 4 ∨ y = 5 ∨ y = 6))) → s x y = σ x y := fun x y hxy => by
    rw [← hs]
    have g1 : ¬ (x = 46 ∧ y = 4) := by omega
    have g2 : ¬ (x = 46 ∧ y = 6) := by omega
    have g3 : ¬ (x = 46 ∧ y = 5) := by omega
    have g4 : ¬ (x = 36 ∧ y = 4) := by omega
    exact (if_neg g1).trans ((if_neg g2).trans ((if_neg g3).trans (if_neg g4)))
  have s4 : s 46 4 = nI 0 := by rw [← hs, sc_upS, sc_0]
  have s5 : s 46 5 = nI 0 := by rw [← hs, sc_upJ (by omega), sc_upJ (by omega), sc_upS, sc_0]
  have s6 : s 46 6 = -1 := by rw [← hs, sc_upJ (by omega), sc_upS]
  have s36 : s 36 4 = nI 0 := by rw [← hs, sc_upK (by omega), sc_upK (by omega), sc_upK (by omega), sc_upS, sc_0]
  have hex := sc_expect (σ := s) (d := 0) (a := 0) (x := 0) sc_0 s4 (by omega)
  generalize hr : sf_up (sf_up s 48 0 (nI 0)) 46 4 (nI (0 + 1)) = r at hex
  have hrn : ∀ x y, ¬ ((x = 48 ∧ y = 0) ∨ (x = 46 ∧ y = 4)) → r x y = s x y := fun x y hxy => by
    rw [← hr]
    have g1 : ¬ (x = 46 ∧ y = 4) := by omega
    have g2 : ¬ (x = 48 ∧ y = 0) := by omega
    exact (if_neg g1).trans (if_neg g2)
  have hB : tg_B B 0 r := ⟨t1, Nat.zero_le _, by rw [hrn _ _ (by omega), hsn _ _ (by omega)]; exact t2, fun j x hj => by rw [hrn _ _ (by omega), hsn _ _ (by omega)]; exact t3 j x hj, by rw [hrn _ _ (by omega)]; exact s5, by rw [hrn _ _ (by omega)]; exact s6⟩
  obtain ⟨v, v1, v2, v3⟩ := tg_readL Ns B B [0] 0 sf_F [] r hrun (by omega) hB (fun i x hi => by rw [Nat.zero_add]; exact hi) (Nat.zero_add _) ⟨by rw [hrn _ _ (by omega)]; exact s36, fun j c hj => by cases hj⟩ (by simp only [List.length_nil]; omega) (by rw [← hr]; exact sc_upS) ⟨by rw [← hr, sc_upK (by omega)]; exact sc_upS, trivial⟩ (fun x hx => Nat.le_of_eq (by simpa using hx))
  refine ⟨v, ?_, v2, ⟨t1, by rw [v3 _ _ (by omega), hrn _ _ (by omega), hsn _ _ (by omega)]; exact t2, fun j x hj => by rw [v3 _ _ (by omega), hrn _ _ (by omega), hsn _ _ (by omega)]; exact t3 j x hj⟩, fun x y hxy => by rw [v3 x y hxy, hrn x y (by omega), hsn x y (by omega)]⟩
  unfold dX4_read
  simp only [hs, hex, Option.bind_some]
  rw [sc_0]
  exact v1
