/-! set, show -/
theorem f157_1 {U : sU} {w : Int32} {a j : Nat} (hw : 1 ≤ w.toInt ∧ w.toInt ≤ 7) (h : a ≠ 209) : (f_157 w U).2.1 a j = U.1 a j := by
  rw [f157_eq hw]
  exact sI_ne h
theorem set_inv {U : sU} {nT nM s i : Nat} (h : InvN nT nM U) (hs : s < 8) (hi : i < 64) (w : Int64) : InvN nT nM (sJ (sJ U (265 + 2 * s) i w) 286 (64 * s + i) w) := by
  refine InvN_sh hs h (fun a j _ _ => rfl) ?_ ?_
  · intro t ht hts j hj
    simp (disch := omega) only [sJ_ne, sJ_nj, true_and]
  · have q := h.2.1 s hs
    unfold rShelf at q ⊢
    rw [sJ_1, sJ_1]
    rcases q with q | ⟨a1, a2, o, n, a3, a4, a5, a6, a7, a8, a9⟩ | q
    · exact Or.inl q
    · refine Or.inr (Or.inl ⟨a1, a2, o, n, a3, a4, a5, a6, a7, a8, ?_⟩)
      intro j hj
      by_cases hji : j = i
      · subst hji
        simp (disch := omega) only [sJ_ne, sJ_at]
      · simp (disch := omega) only [sJ_ne, sJ_nj]
        exact a9 j hj
    · exact Or.inr (Or.inr q)
theorem st_set {U : sU} (h : Inv U) (s i : Int32) (v : Int64) : Two (some (f_114 s i v U)) (f_182 s i v) := by
  by_cases hs : s < 0 ∨ 8 ≤ s
  · exact ref_to h (w := 1) (by decide) (by unfold f_114; rw [rowFlaw_no hs, if_neg (by decide)]) (by unfold f_182; rw [if_pos (f177_no hs)])
  obtain ⟨e1, e2, e3, e4⟩ := sat_yes hs
  have h0 := h
  obtain ⟨nT, nM, h⟩ := h
  have fl := rowFlaw_eq h hs
  rcases h.2.1 _ e2 with ⟨a1, a2, a3⟩ | ⟨a1, a2, o, n, a3, a4, a5, a6, a7, a8, a9⟩ | ⟨a1, a2, a3, m, _, a4, a5⟩
  · have fl : f_161 s U = 3 := by rw [fl, a2]; rfl
    exact ref_to h0 (w := 3) (by decide) (by unfold f_114; rw [fl, if_neg (by decide)]) (by unfold f_182; rw [if_neg (f177_yes hs), if_pos e3, f157_1 (by decide) (by decide), a2, if_neg (by decide), if_pos e3, if_pos rfl])
  · have fl : f_161 s U = 0 := by rw [fl, a2]; rfl
    have e85 := f85_iff (a := 264 + 2 * s.toNatClampNeg) (x := i) (U := U)
    have el : 264 + 2 * s.toNatClampNeg + 1 = 265 + 2 * s.toNatClampNeg := by omega
    rw [el, ln_sh _ e2, a7, ofNat_int (by omega)] at e85
    by_cases hi : 0 ≤ i.toInt ∧ i.toInt < n
    case neg =>
      refine ref_to h0 (w := 5) (by decide) ?_ ?_
      · unfold f_114
        rw [fl, if_pos rfl, e1]
        dsimp only
        rw [if_pos (e85.mpr (by omega))]
      · unfold f_182
        rw [if_neg (f177_yes hs), if_pos e3, f157_1 (by decide) (by decide), a2, if_neg (by decide), if_pos e3, if_neg (by decide)]
        by_cases h1 : i < 0
        · rw [if_pos h1]
        · rw [if_neg h1, if_pos e3, f157_1 (by decide) (by decide), a8, if_neg]
          rw [i32_lt0] at h1
          rw [i32_lt, ofNat_int (by omega)]
          omega
    have ei : i.toInt = i.toNatClampNeg := by rw [clamp_int]; omega
    have hm := mul64 e4 ei e2 (by omega)
    have hc : (64 * s + i).toNatClampNeg = 64 * s.toNatClampNeg + i.toNatClampNeg := by rw [clamp_int, hm]; omega
    have hib : ib (64 * s + i) 512 := ib_int.mpr (by omega)
    refine ⟨1, sJ U (265 + 2 * s.toNatClampNeg) i.toNatClampNeg (f_90 (264 + 2 * s.toNatClampNeg) v U), sJ (sJ U (265 + 2 * s.toNatClampNeg) i.toNatClampNeg (f_90 (264 + 2 * s.toNatClampNeg) v U)) 286 (64 * s.toNatClampNeg + i.toNatClampNeg) (f_90 (264 + 2 * s.toNatClampNeg) v U), ?_, ?_, nT, nM, set_inv h e2 (by omega) _⟩
    · unfold f_114
      rw [fl, if_pos rfl, e1]
      dsimp only
      rw [if_neg (fun q => absurd (e85.mp q) (by omega))]
      unfold jput
      rw [if_neg (fun q => absurd (e85.mp q) (by omega)), el]
    · unfold f_182
      rw [if_neg (f177_yes hs), sJ_1, if_pos e3, a2, if_neg (by decide), if_pos e3, if_neg (by decide), if_neg (by rw [i32_lt0]; omega), if_pos e3, a8, if_pos (by rw [i32_lt, ofNat_int (by omega)]; omega), if_pos e3, if_pos e3, if_pos e3, a6, if_pos hib, if_pos hib, if_pos hib, if_pos hib, hc]
      unfold f_90
      rw [a5]
      rcases (by omega : o = 0 ∨ o = 1 ∨ o = 2 ∨ o = 3) with rfl | rfl | rfl | rfl <;> rfl
  · have fl : f_161 s U = 2 := by rw [fl, a2]; rfl
    exact ref_to h0 (w := 2) (by decide) (by unfold f_114; rw [fl, if_neg (by decide)]) (by unfold f_182; rw [if_neg (f177_yes hs), if_pos e3, f157_1 (by decide) (by decide), a2, if_pos rfl])
