/-! act -/
theorem InvN_bd {U V : sU} {nT nM : Nat} (h : InvN nT nM U) (e : ∀ a j, a ≠ 261 → a ≠ 263 → a ≠ 312 → ¬ (a = 280 ∧ j = 53) → V.1 a j = U.1 a j) (el : V.2.1 = U.2.1) (hb : rBody V) : InvN nT nM V := by
  obtain ⟨k1, k2, k3, k4, k5, k6⟩ := h
  refine ⟨rNow_congr (fun a j q r => e a j (by omega) (by omega) (by omega) (by omega)) (fun a j q r => e a j (by omega) (by omega) (by omega) (by omega)) (e 280 0 (by omega) (by omega) (by omega) (by omega)) (e 280 1 (by omega) (by omega) (by omega) (by omega)) k1, ?_, ?_, ?_, hb, ?_⟩
  · intro s hs
    exact rShelf_congr (fun j => e _ _ (by omega) (by omega) (by omega) (by omega)) (fun a q r => e _ _ (by omega) (by omega) (by omega) (by omega)) (fun i hi => by rw [el]) (fun i hi => by rw [el]) (k2 s hs)
  · intro i hi
    rw [e 281 i (by omega) (by omega) (by omega) (by omega), e 209 i (by omega) (by omega) (by omega) (by omega)]
    exact k3 i hi
  · rw [e 280 2 (by omega) (by omega) (by omega) (by omega), e 0 5 (by omega) (by omega) (by omega) (by omega)]
    exact k4
  · exact rImg_congr (e 0 3 (by omega) (by omega) (by omega) (by omega)) (fun a j q r => e a j (by omega) (by omega) (by omega) (by omega)) (fun j => e _ _ (by omega) (by omega) (by omega) (by omega)) (e 280 54 (by omega) (by omega) (by omega) (by omega)) (e 280 55 (by omega) (by omega) (by omega) (by omega)) (fun t ht => Or.inl (e _ _ (by omega) (by omega) (by omega) (by omega))) k6
theorem act_inv {k x t : Int32} {U C M : sU} {nT nM n : Nat} (h : InvN nT nM U) (hn : n ≤ 20) (r : BR k x t U C C M n) : InvN nT nM M := by
  obtain ⟨h1, h2, h3, h4, h5, h6, h7, h8, h9, h10⟩ := r
  refine InvN_bd h (fun a j q1 q2 q3 q4 => (h9 a j q4 q3).trans (h7 a j q1 q2)) (h10.trans h8) ?_
  have e1 : M.1 261 4 = Int32.ofNat n := (h9 261 4 (by omega) (by omega)).trans h1
  refine ⟨by rw [h2, e1], by rw [e1, ofNat_int (by omega)]; omega, ?_⟩
  intro i hi
  rw [h3 i hi, h9 263 i (by omega) (by omega)]
theorem act_one {k x t : Int32} {U C : sU} {nT nM : Nat} {g : sU → Option (Int32 × sU)} {c : Int32 × sU} (h : InvN nT nM U) (hW : ∀ W, (∀ a j, a ≠ 261 → a ≠ 263 → W.1 a j = U.1 a j) → ∀ M, BR k x t U W C M 0 → ∃ M' n', n' ≤ 20 ∧ g M = some (c.1, M') ∧ BR k x t U W c.2 M' n') (hC : C = f_2 261 k x t U) : ∃ V, g (sI c.2 280 53 0) = some (c.1, V) ∧ InvN nT nM V := by
  have b3 := h.2.2.2.2.1.2.2
  have start : ∀ W, (∀ a j, a ≠ 261 → a ≠ 263 → W.1 a j = U.1 a j) → W.2.1 = U.2.1 → BR k x t U W C (sI W 280 53 0) 0 := by
    intro W hw hl
    subst hC
    unfold f_2 f_1
    refine ⟨?_, ?_, ?_, ?_, ?_, ?_, ?_, rfl, ?_, rfl⟩
    · simp (disch := omega) only [sI_ne, sI_nj, sI_at]
      rfl
    · simp (disch := omega) only [sI_ne, sI_nj, sI_at]
      rfl
    · intro i hi
      simp (disch := omega) only [sI_ne]
      rw [hw 312 i (by omega) (by omega)]
      exact b3 i hi
    · simp (disch := omega) only [sI_ne, sI_nj, sI_at]
    · simp (disch := omega) only [sI_ne, sI_nj, sI_at]
    · simp (disch := omega) only [sI_ne, sI_nj, sI_at]
    · intro a j q r
      simp (disch := omega) only [sI_ne]
    · intro a j q r
      by_cases ha : a = 280
      · subst ha
        exact sI_nj (by omega)
      · exact sI_ne ha
  obtain ⟨M1, n1, _, _, r1⟩ := hW U (fun _ _ _ _ => rfl) _ (start U (fun _ _ _ _ => rfl) rfl)
  have f7 := r1.2.2.2.2.2.2.1
  have f8 := r1.2.2.2.2.2.2.2.1
  obtain ⟨M2, n2, q1, q2, r2⟩ := hW c.2 f7 _ (start c.2 f7 f8)
  exact ⟨M2, q2, act_inv h q1 r2⟩
theorem st_act {U : sU} (h : Inv U) (x a v : Int32) : Two (some (f_152 x a v U)) (f_275 x a v) := by
  have h0 := h
  have e2' : (2 : Int32).toInt = 2 := rfl
  obtain ⟨nT, nM, h⟩ := h
  have n1 : U.1 280 1 = Int32.ofNat nM := h.1.2.2
  have n8 := h.1.1.2.2.2.1
  have bad : Two (some ((0 : Int32), f_1 261 U)) (fun W => some (0, sI W 280 53 0)) := by
    refine ⟨0, _, _, rfl, rfl, nT, nM, ?_⟩
    unfold f_1
    refine InvN_bd h ?_ rfl ?_
    · intro b j q1 q2 q3 q4
      by_cases hb : b = 280
      · subst hb
        rw [sI_nj (by omega), sI_ne (by omega)]
      · rw [sI_ne hb, sI_ne q1]
    · refine ⟨?_, ?_, ?_⟩
      · simp (disch := omega) only [sI_ne, sI_at]
      · simp (disch := omega) only [sI_ne, sI_at]
        decide
      · intro i hi
        simp (disch := omega) only [sI_ne]
        exact h.2.2.2.2.1.2.2 i hi
  have badto : ∀ c g, c = some ((0 : Int32), f_1 261 U) → g (f_1 261 U) = some ((0 : Int32), sI (f_1 261 U) 280 53 0) → Two c g := by
    intro c g hc hg
    obtain ⟨r, U1, V, y1, y2, y3⟩ := bad
    cases y1
    exact ⟨_, _, V, hc, hg.trans y2, y3⟩
  have nf : (sI (f_1 261 U) 280 53 0).1 280 1 = U.1 280 1 := by unfold f_1; rw [sI_nj (by omega), sI_ne (by omega)]
  by_cases hk : 0 ≤ x.toInt ∧ x.toInt < nM
  case neg => exact badto _ _ (by unfold f_152; rw [mat_no h hk]) (by unfold f_275; rw [if_pos (f180_no (nf.trans n1) n8 hk)])
  obtain ⟨e1, e2, e3, e4, _⟩ := mat_yes h hk
  have ky := f180_yes (nf.trans n1) n8 hk
  by_cases a0 : a < 0
  case pos => exact badto _ _ (by unfold f_152; rw [e1]; dsimp only; rw [if_pos a0]) (by unfold f_275; rw [if_neg ky, if_pos a0])
  by_cases a2 : a ≤ 2
  case neg => exact badto _ _ (by unfold f_152; rw [e1]; dsimp only; rw [if_neg a0, if_neg a2]) (by unfold f_275; rw [if_neg ky, if_neg a0, if_neg a2])
  obtain ⟨q1, q2, q3, q4, q5, q6⟩ := mg_facts h e2
  have kW : ∀ W : sU, (∀ a j, a ≠ 261 → a ≠ 263 → W.1 a j = U.1 a j) → W.1 299 x.toNatClampNeg = U.1 (45 + 5 * x.toNatClampNeg) 2 ∧ W.1 298 x.toNatClampNeg = U.1 (45 + 5 * x.toNatClampNeg) 3 := fun W hw => ⟨(hw _ _ (by omega) (by omega)).trans q1, (hw _ _ (by omega) (by omega)).trans q2⟩
  have fin : ∀ (c : Int32 × sU) (g : sU → Option (Int32 × sU)), f_152 x a v U = c → (∀ W, W.1 280 1 = U.1 280 1 → f_275 x a v W = (g (sI W 280 53 0)).bind fun q => some (q.1, q.2)) → (∀ a j, a ≠ 261 → a ≠ 263 → c.2.1 a j = U.1 a j) → (∃ V, g (sI c.2 280 53 0) = some (c.1, V) ∧ InvN nT nM V) → Two (some (f_152 x a v U)) (f_275 x a v) := by
    intro c g hc hg hf hV
    obtain ⟨V, y1, y2⟩ := hV
    refine ⟨c.1, c.2, V, by rw [hc], ?_, nT, nM, y2⟩
    rw [hg c.2 (hf 280 1 (by omega) (by omega)), y1]
    rfl
  have g275 : ∀ W, W.1 280 1 = U.1 280 1 → ¬ f_180 x (sI W 280 53 0) = 0 := fun W hw => f180_yes (((sI_nj (by omega)).trans hw).trans n1) n8 hk
  have frame : ∀ (c : Int32 × sU) (g : sU → Option (Int32 × sU)), (∀ W, (∀ a j, a ≠ 261 → a ≠ 263 → W.1 a j = U.1 a j) → ∀ M, BR (U.1 (45 + 5 * x.toNatClampNeg) 2) x (U.1 (45 + 5 * x.toNatClampNeg) 3) U W (f_2 261 (U.1 (45 + 5 * x.toNatClampNeg) 2) x (U.1 (45 + 5 * x.toNatClampNeg) 3) U) M 0 → ∃ M' n', n' ≤ 20 ∧ g M = some (c.1, M') ∧ BR (U.1 (45 + 5 * x.toNatClampNeg) 2) x (U.1 (45 + 5 * x.toNatClampNeg) 3) U W c.2 M' n') → f_152 x a v U = c → (∀ W, W.1 280 1 = U.1 280 1 → f_275 x a v W = (g (sI W 280 53 0)).bind fun q => some (q.1, q.2)) → Two (some (f_152 x a v U)) (f_275 x a v) := by
    intro c g hs hc hg
    obtain ⟨V, y1, y2⟩ := act_one h hs rfl
    obtain ⟨M1, n1', _, _, r1⟩ := hs U (fun _ _ _ _ => rfl) (sI U 280 53 0) (by
      unfold f_2 f_1
      refine ⟨?_, ?_, ?_, ?_, ?_, ?_, ?_, rfl, ?_, rfl⟩
      · simp (disch := omega) only [sI_ne, sI_nj, sI_at]
        rfl
      · simp (disch := omega) only [sI_ne, sI_nj, sI_at]
        rfl
      · intro i hi
        simp (disch := omega) only [sI_ne]
        exact h.2.2.2.2.1.2.2 i hi
      · simp (disch := omega) only [sI_ne, sI_nj, sI_at]
      · simp (disch := omega) only [sI_ne, sI_nj, sI_at]
      · simp (disch := omega) only [sI_ne, sI_nj, sI_at]
      · intro a j q r
        simp (disch := omega) only [sI_ne]
      · intro a j q r
        by_cases ha : a = 280
        · subst ha
          exact sI_nj (by omega)
        · exact sI_ne ha)
    exact fin c g hc hg r1.2.2.2.2.2.2.1 ⟨V, y1, y2⟩
  by_cases b0 : a = 0
  · refine frame (f_5 261 v (f_2 261 (U.1 (45 + 5 * x.toNatClampNeg) 2) x (U.1 (45 + 5 * x.toNatClampNeg) 3) U)) (f_272 x v) ?_ ?_ ?_
    · intro W hw M r
      obtain ⟨M', n', y0, y1, y2⟩ := thinks_step (v := v) (by omega) q3 e3 (kW W hw).1 r
      exact ⟨M', n', by omega, y1, y2⟩
    · unfold f_152
      rw [e1]
      dsimp only
      rw [if_neg a0, if_pos a2, if_pos b0]
    · intro W hw
      unfold f_275
      rw [if_neg (g275 W hw), if_neg a0, if_pos a2, if_pos b0]
  by_cases b1 : a = 1
  · refine frame (f_6 261 v (f_2 261 (U.1 (45 + 5 * x.toNatClampNeg) 2) x (U.1 (45 + 5 * x.toNatClampNeg) 3) U)) (f_273 x v) ?_ ?_ ?_
    · intro W hw M r
      obtain ⟨M', n', y0, y1, y2⟩ := says_step (v := v) (by omega) q3 e3 (kW W hw).1 r
      exact ⟨M', n', by omega, y1, y2⟩
    · unfold f_152
      rw [e1]
      dsimp only
      rw [if_neg a0, if_pos a2, if_neg b0, if_pos b1]
    · intro W hw
      unfold f_275
      rw [if_neg (g275 W hw), if_neg a0, if_pos a2, if_neg b0, if_pos b1]
  · refine frame (f_7 261 v (f_2 261 (U.1 (45 + 5 * x.toNatClampNeg) 2) x (U.1 (45 + 5 * x.toNatClampNeg) 3) U)) (f_274 x v) ?_ ?_ ?_
    · intro W hw M r
      obtain ⟨M', n', y0, y1, y2⟩ := does_step (v := v) (by omega) q3 e3 (kW W hw).1 (kW W hw).2 r
      exact ⟨M', n', by omega, y1, y2⟩
    · unfold f_152
      rw [e1]
      dsimp only
      rw [if_neg a0, if_pos a2, if_neg b0, if_neg b1]
    · intro W hw
      unfold f_275
      rw [if_neg (g275 W hw), if_neg a0, if_pos a2, if_neg b0, if_neg b1]
