/-! losses and what is kept within bounds -/
theorem cmp_ge {x y : Int64} : 0 ≤ lg_cmp x y ↔ y.toInt ≤ x.toInt := (lg_cmp_ge x y).trans Int64.le_iff_toInt_le
theorem cmp_le {x y : Int64} : lg_cmp x y ≤ 0 ↔ x.toInt ≤ y.toInt := (lg_cmp_le x y).trans Int64.le_iff_toInt_le
theorem within_eq {y a b : Int32} {U : sU} : f_172 y.toInt64 a b U = if a ≤ y then (if y ≤ b then y else b) else a := by
  unfold f_172
  simp only [cmp_ge, cmp_le, Int32.toInt_toInt64, Int32.toInt32_toInt64, ← i32_le]
theorem loses_eq {U V : sU} {t : Nat} {x : Int32} {d : Int64} (hx : ib x 8) (ht : x.toNatClampNeg = t) (h : V.1 292 t = U.1 (5 + 5 * t) 6) : f_208 x d V = some (f_105 (5 + 5 * t) d U) := by
  unfold f_208 f_105
  rw [if_pos hx, ht, h]
  split
  · rfl
  · split <;> rfl
