/-! meaningOf, show -/
theorem st_meaningOf {U : sU} (h : Inv U) (k w : Int32) : Two (f_129 k w U) (f_220 k w) := by
  have h0 := h
  have e3' : (3 : Int32).toInt = 3 := rfl
  obtain ⟨nT, nM, h⟩ := h
  have n1 : U.1 280 1 = Int32.ofNat nM := h.1.2.2
  have n8 := h.1.1.2.2.2.1
  have n5 : ∀ j, (f_157 5 U).2.1 280 j = U.1 280 j := fun j => f157_1 (by decide) (by decide)
  by_cases hk : 0 ≤ k.toInt ∧ k.toInt < nM
  case neg => exact ref_to h0 (w := 5) (by decide) (by unfold f_129; rw [mat_no h hk]) (by unfold f_220; rw [if_pos (f180_no ((n5 1).trans n1) n8 hk)])
  obtain ⟨e1, e2, e3, e4, _⟩ := mat_yes h hk
  obtain ⟨q1, q2, q3, q4, q5, q6⟩ := mg_facts h e2
  obtain ⟨b, b1, b2, b3⟩ := used_eq h hk
  have ky := f180_yes n1 n8 hk
  have ky5 := f180_yes ((n5 1).trans n1) n8 hk
  by_cases w0 : w < 0
  case pos => exact ref_to h0 (w := 5) (by decide) (by unfold f_129; rw [e1]; dsimp only; rw [if_pos w0]) (by unfold f_220; rw [if_neg ky5, if_pos w0])
  by_cases w3 : w ≤ 3
  case neg => exact ref_to h0 (w := 5) (by decide) (by unfold f_129; rw [e1]; dsimp only; rw [if_neg w0, if_neg w3]) (by unfold f_220; rw [if_neg ky5, if_neg w0, if_neg w3])
  unfold f_129 f_220
  rw [e1]
  dsimp only
  rw [if_neg w0, if_pos w3]
  by_cases c0 : w = 0
  · rw [if_pos c0]
    refine ⟨_, U, U, rfl, ?_, h0⟩
    dsimp only
    rw [if_neg ky, if_neg w0, if_pos w3, if_pos c0, if_pos e3, q1]
  rw [if_neg c0]
  by_cases c1 : w = 1
  · rw [if_pos c1]
    refine ⟨_, U, U, rfl, ?_, h0⟩
    dsimp only
    rw [if_neg ky, if_neg w0, if_pos w3, if_neg c0, if_pos c1, if_pos e3, q2]
  rw [if_neg c1]
  by_cases c2 : w = 2
  · rw [if_pos c2, b2]
    refine ⟨_, U, U, rfl, ?_, h0⟩
    dsimp only
    rw [if_neg ky, if_neg w0, if_pos w3, if_neg c0, if_neg c1, if_pos c2]
    unfold f_218
    rw [b3]
    dsimp only [Option.bind_some]
    rw [pop_eq b1 U U]
    rfl
  · rw [if_neg c2, b2]
    refine ⟨_, U, U, rfl, ?_, h0⟩
    dsimp only
    rw [if_neg ky, if_neg w0, if_pos w3, if_neg c0, if_neg c1, if_neg c2, b3]
    rfl
theorem st_show {U : sU} (h : Inv U) (s m : Int32) : Two (some (f_117 s m U)) (f_185 s m) := by
  have h0 := h
  have em1 : ((-1) : Int32).toInt = -1 := rfl
  obtain ⟨nT, nM, h⟩ := h
  have n1 : U.1 280 1 = Int32.ofNat nM := h.1.2.2
  have n8 := h.1.1.2.2.2.1
  have n5 : ∀ j, (f_157 1 U).2.1 280 j = U.1 280 j := fun j => f157_1 (by decide) (by decide)
  by_cases hs : s < 0 ∨ 8 ≤ s
  · exact ref_to h0 (w := 1) (by decide) (by unfold f_117; rw [sat_no hs]) (by unfold f_185; rw [if_pos (f177_no hs)])
  obtain ⟨e1, e2, e3, e4⟩ := sat_yes hs
  have l282 := l_282
  by_cases hm : m = (-1)
  · refine ⟨0, f_83 (264 + 2 * s.toNatClampNeg) U, sI (sI (f_83 (264 + 2 * s.toNatClampNeg) U) 282 s.toNatClampNeg 0) 285 s.toNatClampNeg m, ?_, ?_, nT, nM, ?_⟩
    · unfold f_117
      rw [e1]
      dsimp only
      rw [if_pos hm]
    · unfold f_185
      rw [if_neg (f177_yes hs), if_pos hm]
      unfold f_185_27
      rw [if_pos hm]
      unfold f_185_42
      rw [l_282, if_pos e3, if_pos e3, if_pos hm]
    · generalize s.toNatClampNeg = k at *
      refine InvN_sh e2 h ?_ ?_ ?_
      · intro a j h1 h2
        by_cases h3 : 282 ≤ a ∧ a < 286
        · have hj : j ≠ k := fun q => h2 ⟨h3.1, h3.2, q⟩
          rcases (by omega : a = 282 ∨ a = 283 ∨ a = 284 ∨ a = 285) with rfl | rfl | rfl | rfl <;> simp (disch := omega) only [sI_ne, sI_nj, f_83]
        · simp (disch := omega) only [sI_ne, f_83]
      · intro t ht hts i hi
        exact ⟨rfl, rfl⟩
      · refine Or.inl ⟨?_, ?_, ?_⟩ <;> simp (disch := omega) only [f_83, sI_ne, sI_nj, sI_at]
  by_cases hk : 0 ≤ m.toInt ∧ m.toInt < nM
  case neg => exact ref_to h0 (w := 1) (by decide) (by unfold f_117; rw [e1]; dsimp only; rw [if_neg hm, mat_no h hk]) (by unfold f_185; rw [if_neg (f177_yes hs), if_neg hm, if_pos (f180_no ((n5 1).trans n1) n8 hk)])
  obtain ⟨m1, m2, m3, m4, _⟩ := mat_yes h hk
  refine ⟨1, f_84 (264 + 2 * s.toNatClampNeg) m U, sI (sI (f_84 (264 + 2 * s.toNatClampNeg) m U) 282 s.toNatClampNeg 2) 285 s.toNatClampNeg m, ?_, ?_, nT, nM, ?_⟩
  · unfold f_117
    rw [e1]
    dsimp only
    rw [if_neg hm, m1]
  · unfold f_185
    have n7 : (f_84 (264 + 2 * s.toNatClampNeg) m U).1 280 1 = U.1 280 1 := by simp (disch := omega) only [f_84, f_83, sI_ne]
    rw [if_neg (f177_yes hs), if_neg hm, if_neg (f180_yes (n7.trans n1) n8 hk)]
    unfold f_185_27
    rw [if_neg hm]
    unfold f_185_42
    rw [l_282, if_pos e3, if_pos e3, if_neg hm]
  · generalize s.toNatClampNeg = k at *
    refine InvN_sh e2 h ?_ ?_ ?_
    · intro a j h1 h2
      by_cases h3 : 282 ≤ a ∧ a < 286
      · have hj : j ≠ k := fun q => h2 ⟨h3.1, h3.2, q⟩
        rcases (by omega : a = 282 ∨ a = 283 ∨ a = 284 ∨ a = 285) with rfl | rfl | rfl | rfl <;> simp (disch := omega) only [sI_ne, sI_nj, f_84, f_83]
      · simp (disch := omega) only [sI_ne, f_84, f_83]
    · intro t ht hts i hi
      exact ⟨rfl, rfl⟩
    · refine Or.inr (Or.inr ⟨?_, ?_, ?_, m.toNatClampNeg, m2, ?_, ?_⟩)
      · simp (disch := omega) only [f_84, f_83, sI_ne, sI_nj, sI_at]
      · simp (disch := omega) only [f_84, f_83, sI_ne, sI_nj, sI_at]
      · simp (disch := omega) only [f_84, f_83, sI_ne, sI_nj, sI_at]
      · rw [← i32_nat hk.1]
        simp (disch := omega) only [f_84, f_83, sI_ne, sI_nj, sI_at]
      · rw [← i32_nat hk.1]
        simp (disch := omega) only [f_84, f_83, sI_ne, sI_nj, sI_at]
