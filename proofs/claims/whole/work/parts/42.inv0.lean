/-! the kernel's part of it -/
theorem chU0 : chU U0 = true := by decide +kernel
theorem Inv_U0 : Inv U0 := ⟨0, 0, Inv_of_chU chU0⟩
