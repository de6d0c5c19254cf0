/-! the heap after the constructors -/
theorem and4 {a b c d : Bool} (h : (a && (b && (c && d))) = true) : a = true ∧ b = true ∧ c = true ∧ d = true := by
  cases a <;> cases b <;> cases c <;> cases d <;> first | exact ⟨rfl, rfl, rfl, rfl⟩ | cases h
theorem cR1_eq : cR1 = some (none, cH1) := isN_eq (and4 cR_ok).1
theorem cR2_eq : cR2 = some (none, cHE) := isN_eq (and4 cR_ok).2.1
theorem cH1_len : cH1.length = 280 := by
  have h := (and4 cR_ok).2.2.1
  rw [nbq] at h
  exact h
theorem wf_of {n d : Nat} {I : sm_I} {pc : Nat} {lv : sm_L} {st : List Value} {h g : sm_H} {x : Option (Option Value × sm_H)} (H : WFr h) (hx : x = sm_run sm_M n d I pc lv st h) (hr : x = some (none, g)) : WFr g := sm_run_wf sm_M n d I pc lv st h (none, g) H (hx.symm.trans hr)
theorem cR1_def : cR1 = sm_run sm_M 4000 9 sm_I112 0 (lv_args 0 [.ref 0]) [] cH0 := by delta cR1; rfl
theorem cR2_def : cR2 = sm_run sm_M 1000 9 sm_I173 0 (lv_args 0 [.ref 280]) [] cH2 := by delta cR2; rfl
theorem cH1_wf : WFr cH1 := wf_of cH0_wf cR1_def cR1_eq
theorem cH2_wf : WFr cH2 := by
  delta cH2
  exact WFr_app cH1_wf (by trivial)
theorem cHE_wf : WFr cHE := wf_of cH2_wf cR2_def cR2_eq
theorem cHE_lay : cHE = lay U0 := by
  delta U0
  exact lay_of_check cHE_wf (and4 cR_ok).2.2.2
