/-! the invariant holds after the constructors: a check -/
def chU (U : sU) : Bool := U.1 2 2 == 0 && (U.1 2 3 == 0 && (U.1 280 0 == 0 && (U.1 280 1 == 0 && ((List.range 8).all (fun s => U.1 (264 + 2 * s) 1 == 0 && (U.1 282 s == 0 && U.1 (264 + 2 * s) 3 == 0)) && ((List.range 8).all (fun i => U.1 281 i == U.1 209 i) && (U.1 280 2 == U.1 0 5 && (U.1 280 53 == 0 && (U.1 261 4 == 0 && ((List.range 20).all (fun i => U.1 312 i == U.1 263 i) && (U.1 0 3 == 0 && (U.1 280 54 == -1 && (List.range 8).all (fun t => U.1 (5 + 5 * t) 7 == 0 && U.1 (108 + 5 * t) 7 == 0))))))))))))
theorem Inv_of_chU {U : sU} (h : chU U = true) : InvN 0 0 U := by
  simp only [chU, Bool.and_eq_true, List.all_eq_true, List.mem_range, beq_iff_eq] at h
  obtain ⟨h1, h2, h3, h4, h5, h6, h7, h8, h9, h10, h11, h12, h13⟩ := h
  refine ⟨⟨⟨h1, h2, by omega, by omega, fun t ht => by omega, fun t ht => by omega⟩, h3, h4⟩, ?_, h6, h7, ?_, ?_, ?_, ?_⟩
  · intro s hs
    obtain ⟨a, b, c⟩ := h5 s hs
    exact Or.inl ⟨a, b, c⟩
  · exact ⟨h8.trans h9.symm, by rw [h9]; decide, h10⟩
  · exact Or.inl ⟨h11, h12⟩
  · exact fun t ht => Or.inl (h13 t ht).1
  · exact fun t ht => Or.inl (h13 t ht).2
