/-! act: the bodies run alike -/
def BR (k x t : Int32) (U W C M : sU) (n : Nat) : Prop :=
  C.1 261 4 = Int32.ofNat n ∧ M.1 280 53 = Int32.ofNat n ∧ (∀ i, i < 20 → M.1 312 i = C.1 263 i) ∧ C.1 261 1 = k ∧ C.1 261 2 = x ∧ C.1 261 3 = t ∧ (∀ a j, a ≠ 261 → a ≠ 263 → C.1 a j = U.1 a j) ∧ C.2.1 = U.2.1 ∧ (∀ a j, ¬ (a = 280 ∧ j = 53) → a ≠ 312 → M.1 a j = W.1 a j) ∧ M.2.1 = W.2.1
theorem note_step {k x t : Int32} {U W C M : sU} {n : Nat} (b : Int32) (hn : n < 20) (h : BR k x t U W C M n) : ∃ M', f_271 b M = some M' ∧ BR k x t U W (f_3 261 b C) M' (n + 1) := by
  obtain ⟨h1, h2, h3, h4, h5, h6, h7, h8, h9, h10⟩ := h
  have e20 : (20 : Int32).toInt = 20 := rfl
  have en : (Int32.ofNat n).toInt = n := ofNat_int (by omega)
  have ec : (Int32.ofNat n).toNatClampNeg = n := ofNat_clamp (by omega)
  have f3 : f_3 261 b C = sI (sI C 263 n b) 261 4 (Int32.ofNat (n + 1)) := by
    unfold f_3 iput
    rw [h1, if_pos (ib_int.mpr (by rw [l_263]; omega)), ec, sI_ne (by omega), h1, ofNat_succ]
  refine ⟨sI (sI M 312 n b) 280 53 (Int32.ofNat (n + 1)), ?_, ?_⟩
  · unfold f_271
    rw [h2, if_neg (by rw [i32_le]; omega), if_pos (ib_int.mpr (by omega)), ec, sI_ne (by omega), h2, ofNat_succ]
  · rw [f3]
    refine ⟨sI_at, sI_at, ?_, ?_, ?_, ?_, ?_, h8, ?_, h10⟩
    · intro i hi
      by_cases hin : i = n
      · subst hin
        simp (disch := omega) only [sI_ne, sI_at]
      · simp (disch := omega) only [sI_ne, sI_nj]
        exact h3 i hi
    · simp (disch := omega) only [sI_ne, sI_nj]; exact h4
    · simp (disch := omega) only [sI_ne, sI_nj]; exact h5
    · simp (disch := omega) only [sI_ne, sI_nj]; exact h6
    · intro a j q r
      simp (disch := omega) only [sI_ne]
      exact h7 a j q r
    · intro a j q r
      by_cases ha : a = 280
      · subst ha
        rw [sI_nj (by omega), sI_ne (by omega)]
        exact h9 280 j q r
      · rw [sI_ne ha, sI_ne r]
        exact h9 a j q r
theorem f_167_U (a b : Int32) (U V : sU) : f_167 a b U = f_167 a b V := rfl
/-- the last steps of thinking -/
theorem think_end {k x t v p : Int32} {U W C M : sU} {n : Nat} (hn : n < 20) (hk : k = 0 ∧ p = 0 ∨ k = 2 ∧ p = 0 ∨ k = 5 ∧ p = 0 ∨ (k = 1 ∨ k = 3 ∨ k = 4) ∧ p = 1) (h : BR k x t U W C M n) : ∃ M', f_272_39 x v k M = some ((f_5_36 261 v p C).1, M') ∧ BR k x t U W (f_5_36 261 v p C).2 M' (n + 1) := by
  obtain ⟨M', m1, m2⟩ := note_step 10 hn h
  have c1 := m2.2.2.2.1
  have c2 := m2.2.2.2.2.1
  refine ⟨M', ?_, ?_⟩
  · unfold f_272_39 f_5_36
    rw [m1, c1, c2]
    rcases hk with ⟨rfl, rfl⟩ | ⟨rfl, rfl⟩ | ⟨rfl, rfl⟩ | ⟨rfl | rfl | rfl, rfl⟩ <;> rfl
  · have e : (f_5_36 261 v p C).2 = f_3 261 10 C := by
      unfold f_5_36
      split
      · split <;> rfl
      · rfl
    rw [e]
    exact m2
theorem thinks_step {k x t v : Int32} {U W C M : sU} {n : Nat} (hn : n + 1 < 20) (hk : 0 ≤ k.toInt ∧ k.toInt ≤ 5) (hx : ib x 12) (hW : W.1 299 x.toNatClampNeg = k) (h : BR k x t U W C M n) : ∃ M' n', n' ≤ n + 2 ∧ f_272 x v M = some ((f_5 261 v C).1, M') ∧ BR k x t U W (f_5 261 v C).2 M' n' := by
  have c1 := h.2.2.2.1
  have cM : M.1 299 x.toNatClampNeg = k := (h.2.2.2.2.2.2.2.2.1 _ _ (by omega) (by omega)).trans hW
  unfold f_272 f_5
  rw [if_pos hx, cM, c1]
  rcases (by omega : k.toInt = 0 ∨ k.toInt = 1 ∨ k.toInt = 2 ∨ k.toInt = 3 ∨ k.toInt = 4 ∨ k.toInt = 5) with r | r | r | r | r | r
  · have : k = 0 := i32_eq.mpr r
    subst this
    have p0 : f_167 0 1 C = 0 := (f_167_U 0 1 C Ud).trans (by decide : f_167 0 1 Ud = 0)
    obtain ⟨M1, a1, a2⟩ := think_end (v := v) (p := 0) (by omega) (Or.inl ⟨rfl, rfl⟩) h
    unfold f_272_28
    rw [p0, if_pos rfl, if_neg (by decide), if_neg (by decide), if_neg (by decide), if_neg (by decide), if_neg (by decide)]
    exact ⟨M1, n + 1, by omega, a1, a2⟩
  · have : k = 1 := i32_eq.mpr r
    subst this
    have p0 : f_167 1 1 C = 1 := (f_167_U 1 1 C Ud).trans (by decide : f_167 1 1 Ud = 1)
    obtain ⟨M0, b1, b2⟩ := note_step 20 (by omega) h
    obtain ⟨M1, a1, a2⟩ := think_end (v := v) (p := 1) (by omega) (Or.inr (Or.inr (Or.inr ⟨Or.inl rfl, rfl⟩))) b2
    have e28 : f_272_28 x v 1 M0 = f_272_39 x v 1 M0 := by unfold f_272_28; rw [if_neg (by decide)]
    unfold f_272_22
    rw [p0, if_neg (by decide : ¬ (1 : Int32) = 0), if_pos rfl, b1, Option.bind_some, e28]
    exact ⟨M1, n + 2, by omega, a1, a2⟩
  · have : k = 2 := i32_eq.mpr r
    subst this
    have p0 : f_167 2 1 C = 0 := (f_167_U 2 1 C Ud).trans (by decide : f_167 2 1 Ud = 0)
    obtain ⟨M1, a1, a2⟩ := think_end (v := v) (p := 0) (by omega) (Or.inr (Or.inl ⟨rfl, rfl⟩)) h
    unfold f_272_28
    rw [p0, if_pos rfl, if_neg (by decide), if_neg (by decide), if_neg (by decide), if_neg (by decide), if_neg (by decide)]
    exact ⟨M1, n + 1, by omega, a1, a2⟩
  · have : k = 3 := i32_eq.mpr r
    subst this
    have p0 : f_167 3 1 C = 1 := (f_167_U 3 1 C Ud).trans (by decide : f_167 3 1 Ud = 1)
    obtain ⟨M0, b1, b2⟩ := note_step 20 (by omega) h
    obtain ⟨M1, a1, a2⟩ := think_end (v := v) (p := 1) (by omega) (Or.inr (Or.inr (Or.inr ⟨Or.inr (Or.inl rfl), rfl⟩))) b2
    have e28 : f_272_28 x v 3 M0 = f_272_39 x v 3 M0 := by unfold f_272_28; rw [if_neg (by decide)]
    unfold f_272_22
    rw [p0, if_neg (by decide : ¬ (1 : Int32) = 0), if_neg (by decide), if_pos rfl, b1, Option.bind_some, e28]
    exact ⟨M1, n + 2, by omega, a1, a2⟩
  · have : k = 4 := i32_eq.mpr r
    subst this
    have p0 : f_167 4 1 C = 1 := (f_167_U 4 1 C Ud).trans (by decide : f_167 4 1 Ud = 1)
    obtain ⟨M0, b1, b2⟩ := note_step 20 (by omega) h
    obtain ⟨M1, a1, a2⟩ := think_end (v := v) (p := 1) (by omega) (Or.inr (Or.inr (Or.inr ⟨Or.inr (Or.inr rfl), rfl⟩))) b2
    have e28 : f_272_28 x v 4 M0 = f_272_39 x v 4 M0 := by unfold f_272_28; rw [if_neg (by decide)]
    unfold f_272_22
    rw [p0, if_neg (by decide : ¬ (1 : Int32) = 0), if_neg (by decide), if_neg (by decide), if_pos rfl, b1, Option.bind_some, e28]
    exact ⟨M1, n + 2, by omega, a1, a2⟩
  · have : k = 5 := i32_eq.mpr r
    subst this
    have p0 : f_167 5 1 C = 0 := (f_167_U 5 1 C Ud).trans (by decide : f_167 5 1 Ud = 0)
    obtain ⟨M0, b1, b2⟩ := note_step 60 (by omega) h
    obtain ⟨M1, a1, a2⟩ := think_end (v := v) (p := 0) (by omega) (Or.inr (Or.inr (Or.inl ⟨rfl, rfl⟩))) b2
    unfold f_272_28
    rw [p0, if_pos rfl, if_pos rfl, if_neg (by decide), if_neg (by decide), if_neg (by decide), if_pos rfl, b1, Option.bind_some]
    exact ⟨M1, n + 2, by omega, a1, a2⟩
