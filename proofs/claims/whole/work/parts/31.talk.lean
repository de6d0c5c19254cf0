/-! chance, change -/
theorem chance_inv {U : sU} {nT nM t n i : Nat} {v : Int32} (h : InvN nT nM U) (ht : t < nT) (h8 : nT ≤ 8) (hn : U.1 (5 + 5 * t) 2 = Int32.ofNat n) (hn12 : n ≤ 12) (hi : i < n) (hv : 1 ≤ v.toInt ∧ v.toInt ≤ 99) : InvN nT nM (sI (sI U (9 + 5 * t) i v) 297 (12 * t + i) v) := by
  refine InvN_tk ht h ?_ rfl ?_ ?_ ?_
  · intro a j h1 h2 h3 h4 h5
    by_cases ha : a = 297
    · subst ha
      simp (disch := omega) only [sI_nj, sI_ne]
    · simp (disch := omega) only [sI_ne]
  · simp (disch := omega) only [sI_ne]
  · simp (disch := omega) only [sI_ne]
  · obtain ⟨m, ⟨v1, v2, v3, v4, v5, v6, v7, v8, v9, v10, v11, v12⟩, hf, hx⟩ := h.1.1.2.2.2.2.1 t ht
    dsimp only at *
    have e5 : 2 + 3 + 5 * t = 5 + 5 * t := by omega
    have e7 : 2 + 5 + 5 * t = 7 + 5 * t := by omega
    have e9 : 2 + 7 + 5 * t = 9 + 5 * t := by omega
    rw [e5] at v1 v4 v5 v6 v7 v8 v9 v10 hf
    rw [e7] at v11 v12 hx
    rw [e9] at v11 hx
    rw [e5, e7, e9]
    have F : ∀ f, (sI (sI U (9 + 5 * t) i v) 297 (12 * t + i) v).1 (5 + 5 * t) f = U.1 (5 + 5 * t) f := fun f => by simp (disch := omega) only [sI_ne]
    have X : (sI (sI U (9 + 5 * t) i v) 297 (12 * t + i) v).1 (7 + 5 * t) = U.1 (7 + 5 * t) := by funext j; simp (disch := omega) only [sI_ne]
    have C : ∀ j, (sI (sI U (9 + 5 * t) i v) 297 (12 * t + i) v).1 (9 + 5 * t) j = if j = i then v else U.1 (9 + 5 * t) j := by
      intro j
      by_cases hj : j = i
      · subst hj
        rw [if_pos rfl, sI_ne (by omega), sI_at]
      · rw [if_neg hj, sI_ne (by omega), sI_nj hj]
    have C' : ∀ j, (sI (sI U (9 + 5 * t) i v) 297 (12 * t + i) v).1 297 (12 * t + j) = if j = i then v else U.1 297 (12 * t + j) := by
      intro j
      by_cases hj : j = i
      · subst hj
        rw [if_pos rfl, sI_at]
      · rw [if_neg hj, sI_nj (by omega), sI_ne (by omega)]
    refine ⟨m, ?_, ?_, ?_⟩
    · unfold vTalk
      dsimp only
      rw [X]
      simp only [F, C]
      refine ⟨v1, v2, v3, v4, v5, v6, v7, v8, v9, v10, ?_, v12⟩
      intro j hj
      by_cases hji : j = i
      · rw [if_pos hji]; exact ⟨(v11 j hj).1, (v11 j hj).2.1, hv⟩
      · rw [if_neg hji]; exact v11 j hj
    · intro f hf8
      dsimp only
      rw [F]
      simp (disch := omega) only [sI_ne]
      exact hf f hf8
    · intro j hj
      dsimp only
      rw [X, C, C']
      refine ⟨?_, ?_⟩
      · simp (disch := omega) only [sI_ne]
        exact (hx j hj).1
      · by_cases hji : j = i
        · rw [if_pos hji, if_pos hji]
        · rw [if_neg hji, if_neg hji]; exact (hx j hj).2
theorem st_chance {U : sU} (h : Inv U) (k x v : Int32) : Two (some (f_126 k x v U)) (f_213 k x v) := by
  have h0 := h
  obtain ⟨nT, nM, h⟩ := h
  have n1 : U.1 280 0 = Int32.ofNat nT := h.1.2.1
  have n8 := h.1.1.2.2.1
  have n5 : ∀ a j, a ≠ 209 → (f_157 1 U).2.1 a j = U.1 a j := fun a j q => f157_1 (by decide) q
  have n6 : ∀ a j, a ≠ 209 → (f_157 6 U).2.1 a j = U.1 a j := fun a j q => f157_1 (by decide) q
  by_cases hk : 0 ≤ k.toInt ∧ k.toInt < nT
  case neg => exact ref_to h0 (w := 1) (by decide) (by unfold f_126; rw [tat_no h hk]) (by unfold f_213; rw [f179_no ((n5 280 0 (by decide)).trans n1) n8 hk]; rfl)
  obtain ⟨e1, e2, e3, e4, _⟩ := tat_yes h hk
  obtain ⟨n, _, n12, q0, q0', _, _, _, _, _, _, _, qx, _⟩ := tk_facts h e2
  have f5 := f179_eq (x := x) ((n5 280 0 (by decide)).trans n1) n8 hk n12 ((n5 288 k.toNatClampNeg (by decide)).trans q0')
  have f6 := f179_eq (x := x) ((n6 280 0 (by decide)).trans n1) n8 hk n12 ((n6 288 k.toNatClampNeg (by decide)).trans q0')
  by_cases hx : 0 ≤ x.toInt ∧ x.toInt < n
  case neg => exact ref_to h0 (w := 1) (by decide) (by unfold f_126; rw [e1]; dsimp only; rw [if_pos ((f102_iff n12 q0).mpr hx)]) (by unfold f_213; rw [f5, if_neg hx]; rfl)
  have cx : ¬ f_102 (5 + 5 * k.toNatClampNeg) x U = 0 := fun q => (f102_iff n12 q0).mp q hx
  rw [if_pos hx] at f6
  by_cases w0 : v < 1
  case pos => exact ref_to h0 (w := 6) (by decide) (by unfold f_126; rw [e1]; dsimp only; rw [if_neg cx, if_pos w0]) (by unfold f_213; rw [f6, Option.bind_some, if_neg (by decide), if_pos w0])
  by_cases w1 : v ≤ 99
  case neg => exact ref_to h0 (w := 6) (by decide) (by unfold f_126; rw [e1]; dsimp only; rw [if_neg cx, if_neg w0, if_neg w1]) (by unfold f_213; rw [f6, Option.bind_some, if_neg (by decide), if_neg w0, if_neg w1])
  have ei : x.toInt = x.toNatClampNeg := by rw [clamp_int]; omega
  obtain ⟨m1, m2⟩ := mul12 e4 ei (by omega) (by omega)
  have hib : ib (12 * k + x) 96 := ib_int.mpr (by omega)
  obtain ⟨l1, l2⟩ := ln_tk k.toNatClampNeg (by omega)
  obtain ⟨x1, _, _, x4, _⟩ := qx x.toNatClampNeg (by omega)
  have l9 : 5 + 5 * k.toNatClampNeg + 3 + 1 = 9 + 5 * k.toNatClampNeg := by omega
  have g3 : iget (5 + 5 * k.toNatClampNeg + 3) x U = U.1 (9 + 5 * k.toNatClampNeg) x.toNatClampNeg := by
    unfold iget
    rw [if_pos (ib_int.mpr (by omega)), l9]
  have p3 : iput (5 + 5 * k.toNatClampNeg + 3) x v U = sI U (9 + 5 * k.toNatClampNeg) x.toNatClampNeg v := by
    unfold iput
    rw [if_pos (ib_int.mpr (by omega)), l9]
  have e99 : (99 : Int32).toInt = 99 := rfl
  have e11 : (1 : Int32).toInt = 1 := rfl
  have hv : 1 ≤ v.toInt ∧ v.toInt ≤ 99 := by
    rw [i32_lt] at w0
    rw [i32_le] at w1
    omega
  have n7 : ∀ a j, a ≠ 9 + 5 * k.toNatClampNeg → (sI U (9 + 5 * k.toNatClampNeg) x.toNatClampNeg v).1 a j = U.1 a j := fun a j q => sI_ne q
  have f7 := f179_eq (x := x) ((n7 280 0 (by omega)).trans n1) n8 hk n12 ((n7 288 k.toNatClampNeg (by omega)).trans q0')
  rw [if_pos hx] at f7
  unfold f_126 f_213
  rw [e1]
  dsimp only
  rw [if_neg cx, if_neg w0, if_pos w1, g3, p3]
  refine ⟨_, _, _, rfl, ?_, nT, nM, chance_inv h e2 n8 q0 n12 (i := x.toNatClampNeg) (by omega) hv⟩
  dsimp only
  rw [f7, Option.bind_some, if_neg (by decide), if_neg w0, if_pos w1, if_pos hib, if_pos hib, m2, n7 297 _ (by omega), x4]
