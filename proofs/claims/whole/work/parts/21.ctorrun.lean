/-! the constructors' runs: the kernel's part -/
theorem cR_ok : (isN cR1 && (isN cR2 && (Nat.beq cH1.length 280 && chL 0 sm_shape cHE))) = true := by decide +kernel
