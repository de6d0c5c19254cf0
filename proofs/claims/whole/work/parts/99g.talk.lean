/-! talk: the rule of the loss -/
theorem sI_comm {U : sU} {a b i j : Nat} {v w : Int32} (h : a ≠ b) : sI (sI U a i v) b j w = sI (sI U b j w) a i v := by
  refine Prod.ext ?_ rfl
  funext c k
  by_cases ca : c = a
  · subst ca
    rw [sI_ne h]
    by_cases ki : k = i
    · subst ki; rw [sI_at, sI_at]
    · rw [sI_nj ki, sI_nj ki, sI_ne h]
  · rw [sI_ne ca]
    by_cases cb : c = b
    · subst cb
      by_cases kj : k = j
      · subst kj; rw [sI_at, sI_at]
      · rw [sI_nj kj, sI_nj kj, sI_ne ca]
    · rw [sI_ne cb, sI_ne cb, sI_ne ca]
theorem loss_end {U V0 S V : sU} {s L p n : Nat} (hE : zEnv U V0 s L) (h : Jp U V0 s L S V p) (ht : Jt S V n) : Out U V0 (some (f_25 215 210 S)) (if V.1 280 27 ≤ V.1 280 26 then some (0, sI V 280 30 (V.1 280 26)) else Option.bind (f_190 V) fun q13 => if q13 = 115 then f_200_58 V else Option.bind (f_190 V) fun q15 => if q15 = 97 then f_200_58 V else some (0, sI V 280 30 (V.1 280 26))) (zPt U V0 s L p n) := by
  have g2 : V.1 280 26 = Int32.ofNat p := h.2.2.2.2.2.2.2.1
  have hpL : p ≤ L := h.2.2.2.2.2.2.2.2.2
  have hL := hE.2.1
  have f97 := f16_eq hE h (x := 97) (by decide)
  have lm := letter_m hE h
  have nE := end_m hE h
  by_cases a : p < L ∧ rW U s p = 97
  · have cc : f_25 215 210 S = (1, sI (sI S 215 2 (S.1 215 2 + 1)) 210 6 1) := by
      unfold f_25
      rw [f97, if_pos a, if_neg n10]
    have j0 := Jp_set (f := 6) (v := 1) (w := 1) h (by omega)
    obtain ⟨j1, k1⟩ := Jp_next hE j0 a.1
    have t1 := Jt_kp (Jt_set (f := 6) (v := 1) ht (by omega) (fun q => by omega) (fun q => by omega) (fun _ => Or.inr rfl)) k1
    have sc : sI (sI S 215 2 (S.1 215 2 + 1)) 210 6 1 = sI (sI S 210 6 1) 215 2 ((sI S 210 6 1).1 215 2 + 1) := by rw [sI_comm (by omega), sI_ne (by omega)]
    have e58 : f_200_58 V = some (1, sI (sI V 280 (29 + 6) 1) 280 26 ((sI V 280 (29 + 6) 1).1 280 26 + 1)) := by
      unfold f_200_58
      rw [lm, Option.bind_some, if_pos a.1, if_pos a.2]
    rw [cc, sc, if_neg (fun q => nE.mp q a.1), lm, Option.bind_some, if_pos a.1, a.2, if_neg (by decide), Option.bind_some, if_pos rfl, e58]
    exact Or.inr ⟨_, _, rfl, rfl, p + 1, j1, t1, by omega⟩
  have cc : f_25 215 210 S = f_18 215 115 (sI S 210 6 0) := by
    unfold f_25
    rw [f97, if_neg a, if_pos rfl]
  by_cases b : p < L ∧ rW U s p = 115
  · have j0 := Jp_set (f := 6) (v := 0) (w := 0) h (by omega)
    obtain ⟨j1, k1⟩ := Jp_next hE j0 b.1
    have t1 := Jt_kp (Jt_set (f := 6) (v := 0) ht (by omega) (fun q => by omega) (fun q => by omega) (fun _ => Or.inl rfl)) k1
    have e58 : f_200_58 V = some (1, sI (sI V 280 (29 + 6) 0) 280 26 ((sI V 280 (29 + 6) 0).1 280 26 + 1)) := by
      unfold f_200_58
      rw [lm, Option.bind_some, if_pos b.1, b.2, if_neg (by decide)]
    rw [cc, yes_c hE j0 (by decide) b.1 b.2, if_neg (fun q => nE.mp q b.1), lm, Option.bind_some, if_pos b.1, if_pos b.2, e58]
    exact Or.inr ⟨_, _, rfl, rfl, p + 1, j1, t1, by omega⟩
  · have j0 : Jp U V0 s L (sI S 210 6 0) V p := Jp_in h rfl (fun b j q => sI_ne (by omega)) rfl (fun _ _ _ _ _ => rfl)
    have c0 : f_18 215 115 (sI S 210 6 0) = (0, sI (sI S 210 6 0) 215 3 (Int32.ofNat p)) := by
      unfold f_18
      rw [f16_eq hE j0 (by decide), if_neg b, if_pos rfl, j0.2.2.2.1]
      rfl
    have m0 : (if V.1 280 27 ≤ V.1 280 26 then some ((0 : Int32), sI V 280 30 (V.1 280 26)) else Option.bind (f_190 V) fun q13 => if q13 = 115 then f_200_58 V else Option.bind (f_190 V) fun q15 => if q15 = 97 then f_200_58 V else some (0, sI V 280 30 (V.1 280 26))) = some (0, sI V 280 30 (Int32.ofNat p)) := by
      by_cases d : p < L
      · rw [if_neg (fun q => nE.mp q d), lm, Option.bind_some, if_pos d, if_neg (fun q => b ⟨d, q⟩), Option.bind_some, if_neg (fun q => a ⟨d, q⟩), g2]
      · rw [if_pos (nE.mpr d), g2]
    rw [cc, c0, m0]
    exact Or.inl ⟨_, _, rfl, rfl, Jp_bad hE j0 (by omega)⟩
