/-! the law's entry: the arrays' classes, and all that is known -/
theorem sf_arrT {args : Array Value} {s : State} {ty : FieldType} (harr : (Cond.arrayClass ty).before args s = true) (hty : ∀ C, ty ≠ .object C) : ∃ cA, ArrOfT s cA ty ∧ va_RA s cA ty := by
  obtain ⟨cA, kA, comp, h1, h2, h3⟩ := Cond.arrayClass_spec harr
  refine ⟨cA, fun n z => ⟨fun k h => (by cases h), kA, h2, comp, h3⟩, ?_⟩
  cases ty with
  | object C => exact absurd rfl (hty C)
  | _ => exact h1
theorem sf_knows {args : Array Value} {s : State} (hts : ∀ w ∈ lw_tbl, w.before args s = true) : ∃ (D : va_G) (cy : Nat → ClassId), va_K D vwCl (sf_ty cy) s := by
  obtain ⟨D, hD⟩ := sf_known hts
  have hT := sf_T_hold hts
  obtain ⟨a0, x0, y0⟩ := sf_arrT (hT _ sd_arr.1) (fun _ h => by cases h)
  obtain ⟨a1, x1, y1⟩ := sf_arrT (hT _ sd_arr.2.1) (fun _ h => by cases h)
  obtain ⟨a2, x2, y2⟩ := sf_arrT (hT _ sd_arr.2.2) (fun _ h => by cases h)
  refine ⟨D, fun k => match k with
    | 0 => a0
    | 1 => a1
    | _ => a2, hD, fun k q hk => ?_⟩
  match k, hk with
  | 0, hk => cases hk; exact ⟨x0, y0⟩
  | 1, hk => cases hk; exact ⟨x1, y1⟩
  | 2, hk => cases hk; exact ⟨x2, y2⟩
  | k + 3, hk => cases hk
