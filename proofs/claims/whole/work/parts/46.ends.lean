/-! ends -/
theorem farJ_to {U : sU} {c : Option (Int64 × sU)} {g : sU → Option (Int64 × sU)} {w : Int32} (h : Inv U) (hw : 1 ≤ w.toInt ∧ w.toInt ≤ 7) (hc : c = some ((f_158 w U).1.toInt64, (f_158 w U).2)) (hg : g (f_158 w U).2 = (f_175 (-w) (f_158 w U).2).bind fun q => some (q.1.toInt64, q.2)) : Two c g := by
  obtain ⟨nT, nM, h⟩ := h
  obtain ⟨V, h1, h2⟩ := ref_step hw h
  rw [far_eq hw] at hc hg
  rw [f174_eq hw] at h1
  rw [f175_eq hw] at hg
  cases h1
  exact ⟨_, _, _, hc, hg, nT, nM, h2⟩
theorem st_ends {U : sU} (h : Inv U) (x a b : Int32) : Two (f_146 x a b U) (f_260 x a b) := by
  have h0 := h
  have e999 : (999 : Int32).toInt = 999 := rfl
  obtain ⟨nT, nM, h⟩ := h
  have n1 : U.1 280 0 = Int32.ofNat nT := h.1.2.1
  have n8 := h.1.1.2.2.1
  have n5 : (f_158 5 U).2.1 280 0 = U.1 280 0 := f158_1 (by decide) (by decide)
  by_cases hk : 0 ≤ x.toInt ∧ x.toInt < nT
  case neg => exact farJ_to h0 (w := 5) (by decide) (by unfold f_146; rw [tat_no h hk]) (by unfold f_260; rw [if_pos (f178_no (n5.trans n1) n8 hk)])
  obtain ⟨e1, e2, e3, e4, _⟩ := tat_yes h hk
  have ky5 := f178_yes (n5.trans n1) n8 hk
  have bad : ¬ (0 ≤ a.toInt ∧ b.toInt ≤ 999 ∧ a.toInt ≤ b.toInt) → f_260 x a b (f_158 5 U).2 = (f_175 (-5) (f_158 5 U).2).bind fun q => some (q.1.toInt64, q.2) := by
    intro q
    unfold f_260
    rw [if_neg ky5]
    by_cases a0 : a < 0
    · rw [if_pos a0]
    rw [if_neg a0]
    by_cases b9 : 999 < b
    · rw [if_pos b9]
    rw [if_neg b9, if_neg]
    rw [i32_lt0] at a0
    rw [i32_lt] at b9
    rw [i32_le]
    omega
  by_cases ha : 0 ≤ a.toInt ∧ a.toInt ≤ 999
  case neg => exact farJ_to h0 (w := 5) (by decide) (by unfold f_146; rw [e1]; dsimp only; rw [if_pos (f170_iff.mpr ha)]) (bad (by omega))
  have ca : ¬ f_170 a U = 0 := fun q => f170_iff.mp q ha
  by_cases hb : 0 ≤ b.toInt ∧ b.toInt ≤ 999
  case neg => exact farJ_to h0 (w := 5) (by decide) (by unfold f_146; rw [e1]; dsimp only; rw [if_neg ca, if_pos (f170_iff.mpr hb)]) (bad (by omega))
  have cb : ¬ f_170 b U = 0 := fun q => f170_iff.mp q hb
  by_cases hab : a ≤ b
  case neg => exact farJ_to h0 (w := 5) (by decide) (by unfold f_146; rw [e1]; dsimp only; rw [if_neg ca, if_neg cb, if_neg hab]) (bad (by rw [i32_le] at hab; omega))
  obtain ⟨r, r1, r2⟩ := ends_eq (a := a) (b := b) h hk
  refine ⟨r, U, U, ?_, ?_, h0⟩
  · unfold f_146
    rw [e1]
    dsimp only
    rw [if_neg ca, if_neg cb, if_pos hab, r1]
    rfl
  · unfold f_260
    rw [if_neg (f178_yes n1 n8 hk), if_neg (by rw [i32_lt0]; omega), if_neg (by rw [i32_lt]; omega), if_pos hab, r2]
    rfl
