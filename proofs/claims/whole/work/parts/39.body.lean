/-! act: saying, doing -/
theorem speak_end {k x t v : Int32} {U W C M : sU} {n : Nat} (hn : n + 2 < 20) (hk : 0 ≤ k.toInt ∧ k.toInt ≤ 5) (hx : ib x 12) (hW : W.1 299 x.toNatClampNeg = k) (h : BR k x t U W C M n) : ∃ M' n', n' ≤ n + 3 ∧ f_273_29 x v k M = some ((f_6_31 261 v C).1, M') ∧ BR k x t U W (f_6_31 261 v C).2 M' n' := by
  obtain ⟨M1, m1, m2⟩ := note_step 11 (by omega) h
  obtain ⟨M2, n2, t0, t1, t2⟩ := thinks_step (v := v) (by omega) hk hx hW m2
  unfold f_273_29 f_6_31
  rw [m1, Option.bind_some, t1, Option.bind_some]
  dsimp only
  have c1 := t2.2.2.2.1
  have c2 := t2.2.2.2.2.1
  rcases hq : f_5 261 v (f_3 261 11 C) with ⟨q1, W2⟩
  rw [hq] at c1 c2 t2
  dsimp only at c1 c2 t2 ⊢
  rw [c1, c2]
  refine ⟨M2, n2, by omega, ?_⟩
  by_cases k3 : k = 3
  · rw [if_pos k3, if_pos k3]; exact ⟨rfl, t2⟩
  rw [if_neg k3, if_neg k3]
  by_cases k4 : k = 4
  · rw [if_pos k4, if_pos k4]; exact ⟨rfl, t2⟩
  rw [if_neg k4, if_neg k4]
  exact ⟨rfl, t2⟩
theorem says_step {k x t v : Int32} {U W C M : sU} {n : Nat} (hn : n + 3 < 20) (hk : 0 ≤ k.toInt ∧ k.toInt ≤ 5) (hx : ib x 12) (hW : W.1 299 x.toNatClampNeg = k) (h : BR k x t U W C M n) : ∃ M' n', n' ≤ n + 4 ∧ f_273 x v M = some ((f_6 261 v C).1, M') ∧ BR k x t U W (f_6 261 v C).2 M' n' := by
  have c1 := h.2.2.2.1
  have cM : M.1 299 x.toNatClampNeg = k := (h.2.2.2.2.2.2.2.2.1 _ _ (by omega) (by omega)).trans hW
  unfold f_273 f_6
  rw [if_pos hx, cM, c1]
  by_cases k3 : k = 3
  · rw [if_pos k3, if_pos k3]
    obtain ⟨M1, m1, m2⟩ := note_step 30 (by omega) h
    obtain ⟨M2, n2, t0, t1, t2⟩ := speak_end (v := v) (by omega) hk hx hW m2
    refine ⟨M2, n2, by omega, ?_, t2⟩
    rw [m1, Option.bind_some]
    unfold f_273_18
    rw [if_neg (by rw [k3]; decide)]
    exact t1
  rw [if_neg k3, if_neg k3]
  unfold f_273_18
  by_cases k4 : k = 4
  · rw [if_pos k4, if_pos k4]
    obtain ⟨M1, m1, m2⟩ := note_step 41 (by omega) h
    obtain ⟨M2, n2, t0, t1, t2⟩ := speak_end (v := v) (by omega) hk hx hW m2
    refine ⟨M2, n2, by omega, ?_, t2⟩
    rw [m1, Option.bind_some]
    exact t1
  rw [if_neg k4, if_neg k4]
  obtain ⟨M2, n2, t0, t1, t2⟩ := speak_end (v := v) (by omega) hk hx hW h
  exact ⟨M2, n2, by omega, t1, t2⟩
theorem do_end {k x t v : Int32} {U W C M : sU} {n : Nat} (hn : n + 7 < 20) (hk : 0 ≤ k.toInt ∧ k.toInt ≤ 5) (hx : ib x 12) (hW : W.1 299 x.toNatClampNeg = k) (h : BR k x t U W C M n) : ∃ M' n', n' ≤ n + 7 ∧ f_274_62 x k t v M = some ((f_7_64 261 v C).1, M') ∧ BR k x t U W (f_7_64 261 v C).2 M' n' := by
  obtain ⟨M1, m1, m2⟩ := note_step 12 (by omega) h
  obtain ⟨M2, n2, t0, t1, t2⟩ := says_step (v := v) (by omega) hk hx hW m2
  unfold f_274_62 f_7_64
  rw [m1, Option.bind_some, t1, Option.bind_some]
  rcases hq : f_6 261 v (f_3 261 12 C) with ⟨q1, W2⟩
  rw [hq] at t2
  dsimp only at t2 ⊢
  have c3 := t2.2.2.2.2.2.1
  rw [c3]
  obtain ⟨M3, n3, s0, s1, s2⟩ := thinks_step (v := v - t) (by omega) hk hx hW t2
  rw [s1, Option.bind_some]
  rcases hr : f_5 261 (v - t) W2 with ⟨q3, W4⟩
  rw [hr] at s2
  dsimp only at s2 ⊢
  rw [s2.2.2.2.1, s2.2.2.2.2.2.1]
  refine ⟨M3, n3, by omega, ?_⟩
  by_cases k2 : k = 2
  · rw [if_pos k2, if_pos k2]; exact ⟨rfl, s2⟩
  rw [if_neg k2, if_neg k2]
  by_cases k5 : k = 5
  · rw [if_pos k5, if_pos k5]; exact ⟨rfl, s2⟩
  rw [if_neg k5, if_neg k5]
  exact ⟨rfl, s2⟩
theorem does_step {k x t v : Int32} {U W C M : sU} {n : Nat} (hn : n + 8 < 20) (hk : 0 ≤ k.toInt ∧ k.toInt ≤ 5) (hx : ib x 12) (hW : W.1 299 x.toNatClampNeg = k) (hT : W.1 298 x.toNatClampNeg = t) (h : BR k x t U W C M n) : ∃ M' n', n' ≤ n + 8 ∧ f_274 x v M = some ((f_7 261 v C).1, M') ∧ BR k x t U W (f_7 261 v C).2 M' n' := by
  have c1 := h.2.2.2.1
  have cM : M.1 299 x.toNatClampNeg = k := (h.2.2.2.2.2.2.2.2.1 _ _ (by omega) (by omega)).trans hW
  have cT : M.1 298 x.toNatClampNeg = t := (h.2.2.2.2.2.2.2.2.1 _ _ (by omega) (by omega)).trans hT
  have mid : ∀ v, ∃ M' n', n' ≤ n + 8 ∧ f_274_27 x k t v M = some ((f_7_15 261 v C).1, M') ∧ BR k x t U W (f_7_15 261 v C).2 M' n' := by
    intro v
    unfold f_274_27 f_7_15 f_274_40 f_274_51
    rw [c1]
    by_cases k4 : k = 4
    · rw [if_pos k4, if_pos k4]
      have k2 : ¬ k = 2 := by rw [k4]; decide
      have k5 : ¬ k = 5 := by rw [k4]; decide
      obtain ⟨M1, m1, m2⟩ := note_step 40 (by omega) h
      obtain ⟨M2, n2, t0, t1, t2⟩ := do_end (v := v) (by omega) hk hx hW m2
      refine ⟨M2, n2, by omega, ?_, t2⟩
      rw [m1, Option.bind_some, if_neg k2, if_neg k5]
      exact t1
    rw [if_neg k4, if_neg k4]
    by_cases k2 : k = 2
    · rw [if_pos k2, if_pos k2]
      have k5 : ¬ k = 5 := by rw [k2]; decide
      obtain ⟨M1, m1, m2⟩ := note_step 50 (by omega) h
      obtain ⟨M2, n2, t0, t1, t2⟩ := do_end (v := v) (by omega) hk hx hW m2
      refine ⟨M2, n2, by omega, ?_, t2⟩
      rw [m1, Option.bind_some, if_neg k5]
      exact t1
    rw [if_neg k2, if_neg k2]
    by_cases k5 : k = 5
    · rw [if_pos k5, if_pos k5]
      obtain ⟨M1, m1, m2⟩ := note_step 61 (by omega) h
      obtain ⟨M2, n2, t0, t1, t2⟩ := do_end (v := v) (by omega) hk hx hW m2
      refine ⟨M2, n2, by omega, ?_, t2⟩
      rw [m1, Option.bind_some]
      exact t1
    rw [if_neg k5, if_neg k5]
    obtain ⟨M2, n2, t0, t1, t2⟩ := do_end (v := v) (by omega) hk hx hW h
    exact ⟨M2, n2, by omega, t1, t2⟩
  unfold f_274 f_7
  rw [if_pos hx, if_pos hx, cM, cT, c1]
  by_cases k4 : k = 4
  · rw [if_pos k4, if_pos k4]; exact mid _
  · rw [if_neg k4, if_neg k4]; exact mid _
