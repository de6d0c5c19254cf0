/-! change -/
theorem change_inv {U : sU} {nT nM t p : Nat} {v : Int32} (h : InvN nT nM U) (ht : t < nT) (h8 : nT ≤ 8) (hp : p = 1 ∨ p = 2) (hv : -500 ≤ v.toInt ∧ v.toInt ≤ 500) : InvN nT nM (sI (sI U (5 + 5 * t) (2 + p) v) (288 + p) t v) := by
  refine InvN_tk ht h ?_ rfl ?_ ?_ ?_
  · intro a j h1 h2 h3 h4 h5
    by_cases ha : a = 288 + p
    · subst ha
      have hj : j ≠ t := fun q => h4 ⟨by omega, by omega, q⟩
      simp (disch := omega) only [sI_nj, sI_ne]
    · simp (disch := omega) only [sI_ne]
  · simp (disch := omega) only [sI_ne, sI_nj]
  · simp (disch := omega) only [sI_ne, sI_nj]
  · obtain ⟨m, ⟨v1, v2, v3, v4, v5, v6, v7, v8, v9, v10, v11, v12⟩, hf, hx⟩ := h.1.1.2.2.2.2.1 t ht
    dsimp only at *
    have e5 : 2 + 3 + 5 * t = 5 + 5 * t := by omega
    have e7 : 2 + 5 + 5 * t = 7 + 5 * t := by omega
    have e9 : 2 + 7 + 5 * t = 9 + 5 * t := by omega
    rw [e5] at v1 v4 v5 v6 v7 v8 v9 v10 hf
    rw [e7] at v11 v12 hx
    rw [e9] at v11 hx
    rw [e5, e7, e9]
    have X : (sI (sI U (5 + 5 * t) (2 + p) v) (288 + p) t v).1 (7 + 5 * t) = U.1 (7 + 5 * t) := by funext j; simp (disch := omega) only [sI_ne]
    have C : (sI (sI U (5 + 5 * t) (2 + p) v) (288 + p) t v).1 (9 + 5 * t) = U.1 (9 + 5 * t) := by funext j; simp (disch := omega) only [sI_ne]
    have X' : (sI (sI U (5 + 5 * t) (2 + p) v) (288 + p) t v).1 296 = U.1 296 := by funext j; simp (disch := omega) only [sI_ne]
    have C' : (sI (sI U (5 + 5 * t) (2 + p) v) (288 + p) t v).1 297 = U.1 297 := by funext j; simp (disch := omega) only [sI_ne]
    have F : ∀ f, (sI (sI U (5 + 5 * t) (2 + p) v) (288 + p) t v).1 (5 + 5 * t) (2 + f) = if f = p then v else U.1 (5 + 5 * t) (2 + f) := by
      intro f
      by_cases hfp : f = p
      · subst hfp
        rw [if_pos rfl, sI_ne (by omega), sI_at]
      · rw [if_neg hfp, sI_ne (by omega), sI_nj (by omega)]
    have F' : ∀ f, (sI (sI U (5 + 5 * t) (2 + p) v) (288 + p) t v).1 (288 + f) t = if f = p then v else U.1 (288 + f) t := by
      intro f
      by_cases hfp : f = p
      · subst hfp
        rw [if_pos rfl, sI_at]
      · rw [if_neg hfp, sI_ne (by omega), sI_ne (by omega)]
    refine ⟨m, ?_, ?_, ?_⟩
    · unfold vTalk
      rw [X, C]
      dsimp only
      rw [F, F, F, F, F, F, F, F]
      refine ⟨?_, v2, v3, ?_, ?_, ?_, ?_, ?_, ?_, ?_, v11, v12⟩
      · rw [if_neg (by omega)]; exact v1
      · rcases hp with rfl | rfl
        · exact hv
        · exact v4
      · rcases hp with rfl | rfl
        · exact v5
        · exact hv
      · rw [if_neg (by omega)]; exact v6
      · rw [if_neg (by omega)]; exact v7
      · rw [if_neg (by omega)]; exact v8
      · rw [if_neg (by omega)]; exact v9
      · rw [if_neg (by omega)]; exact v10
    · intro f hf8
      dsimp only
      rw [F, F']
      split
      · rfl
      · exact hf f hf8
    · intro j hj
      dsimp only
      rw [X, C, X', C']
      exact hx j hj
theorem f171_iff {v : Int32} {U : sU} : f_171 v U = 0 ↔ ¬ (-500 ≤ v.toInt ∧ v.toInt ≤ 500) := by
  have e1 : ((-500) : Int32).toInt = -500 := rfl
  have e2 : (500 : Int32).toInt = 500 := rfl
  unfold f_171
  by_cases h1 : v < (-500)
  · rw [if_pos h1]; rw [i32_lt] at h1
    exact ⟨fun _ => by omega, fun _ => rfl⟩
  rw [if_neg h1]; rw [i32_lt] at h1
  by_cases h2 : 500 < v
  · rw [if_pos h2]; rw [i32_lt] at h2
    exact ⟨fun _ => by omega, fun _ => rfl⟩
  rw [if_neg h2]; rw [i32_lt] at h2
  exact ⟨fun q => absurd q (by decide), fun q => absurd (by omega) q⟩
theorem st_change {U : sU} (h : Inv U) (k w v : Int32) : Two (f_125 k w v U) (f_212 k w v) := by
  have h0 := h
  have e1' : ((-500) : Int32).toInt = -500 := rfl
  have e2' : (500 : Int32).toInt = 500 := rfl
  obtain ⟨nT, nM, h⟩ := h
  have n1 : U.1 280 0 = Int32.ofNat nT := h.1.2.1
  have n8 := h.1.1.2.2.1
  have n5 : ∀ a j, a ≠ 209 → (f_158 1 U).2.1 a j = U.1 a j := fun a j q => f158_1 (by decide) q
  have n6 : ∀ a j, a ≠ 209 → (f_158 6 U).2.1 a j = U.1 a j := fun a j q => f158_1 (by decide) q
  by_cases hk : 0 ≤ k.toInt ∧ k.toInt < nT
  case neg => exact far_to h0 (w := 1) (by decide) (by unfold f_125; rw [tat_no h hk]) (by unfold f_212; rw [if_pos (f178_no ((n5 280 0 (by decide)).trans n1) n8 hk)])
  obtain ⟨e1, e2, e3, e4, _⟩ := tat_yes h hk
  obtain ⟨n, _, _, q0, q0', q1, q2, _⟩ := tk_facts h e2
  have ky := f178_yes n1 n8 hk
  have ky6 := f178_yes ((n6 280 0 (by decide)).trans n1) n8 hk
  by_cases w0 : w < 0
  case pos => exact far_to h0 (w := 6) (by decide) (by unfold f_125; rw [e1]; dsimp only; rw [if_pos w0]) (by unfold f_212; rw [if_neg ky6, if_pos w0])
  by_cases w1 : 1 < w
  case pos => exact far_to h0 (w := 6) (by decide) (by unfold f_125; rw [e1]; dsimp only; rw [if_neg w0, if_pos w1]) (by unfold f_212; rw [if_neg ky6, if_neg w0, if_pos w1])
  by_cases hv : -500 ≤ v.toInt ∧ v.toInt ≤ 500
  case neg =>
    refine far_to h0 (w := 6) (by decide) (by unfold f_125; rw [e1]; dsimp only; rw [if_neg w0, if_neg w1, if_pos (f171_iff.mpr hv)]) ?_
    unfold f_212
    rw [if_neg ky6, if_neg w0, if_neg w1]
    by_cases v0 : v < (-500)
    · rw [if_pos v0]
    · rw [if_neg v0, if_neg]
      rw [i32_lt] at v0
      rw [i32_le]
      omega
  have s1 : ¬ f_171 v U = 0 := fun q => f171_iff.mp q hv
  have v0 : ¬ v < (-500) := by rw [i32_lt]; omega
  have v5 : v ≤ 500 := by rw [i32_le]; omega
  unfold f_125 f_212
  rw [e1]
  dsimp only
  rw [if_neg w0, if_neg w1, if_neg s1]
  by_cases hw : w = 0
  · rw [if_pos hw]
    unfold f_125_61
    rw [if_pos hw]
    refine ⟨_, _, _, rfl, ?_, nT, nM, change_inv h e2 n8 (Or.inl rfl) hv⟩
    dsimp only
    have n7 : ∀ a j, a ≠ 5 + 5 * k.toNatClampNeg → (sI U (5 + 5 * k.toNatClampNeg) 3 v).1 a j = U.1 a j := fun a j q => sI_ne q
    rw [if_neg (f178_yes ((n7 280 0 (by omega)).trans n1) n8 hk), if_neg w0, if_neg w1, if_neg v0, if_pos v5, if_pos hw, if_pos e3, n7 289 _ (by omega), q1.1]
    unfold f_212_63
    rw [if_pos hw, if_pos e3]
  · rw [if_neg hw]
    unfold f_125_61
    rw [if_neg hw]
    refine ⟨_, _, _, rfl, ?_, nT, nM, change_inv h e2 n8 (Or.inr rfl) hv⟩
    dsimp only
    have n7 : ∀ a j, a ≠ 5 + 5 * k.toNatClampNeg → (sI U (5 + 5 * k.toNatClampNeg) 4 v).1 a j = U.1 a j := fun a j q => sI_ne q
    rw [if_neg (f178_yes ((n7 280 0 (by omega)).trans n1) n8 hk), if_neg w0, if_neg w1, if_neg v0, if_pos v5, if_neg hw, if_pos e3, n7 290 _ (by omega), q2.1]
    unfold f_212_63
    rw [if_neg hw, if_pos e3]
