/-! says (of a shelf) -/
theorem under_eq {a b : Int32} {U V : sU} (ha : 0 ≤ a.toInt ∧ a.toInt ≤ 5) (hb : 0 ≤ b.toInt ∧ b.toInt ≤ 5) : f_167 a b U = f_187 a b V := by
  have e1 : f_167 a b U = f_167 a b Ud := rfl
  have e2 : f_187 a b V = f_187 a b Ud := rfl
  have c1 := clamp_int a
  have c2 := clamp_int b
  rw [e1, e2, i32_nat ha.1, i32_nat hb.1]
  exact (by decide : ∀ a, a < 6 → ∀ b, b < 6 → f_167 (Int32.ofNat a) (Int32.ofNat b) Ud = f_187 (Int32.ofNat a) (Int32.ofNat b) Ud) _ (by omega) _ (by omega)
theorem f166_iff {v : Int32} {U : sU} : f_166 v U = 0 ↔ ¬ (0 ≤ v.toInt ∧ v.toInt ≤ 5) := by
  have e2 : (5 : Int32).toInt = 5 := rfl
  unfold f_166
  by_cases h1 : v < 0
  · rw [if_pos h1]; rw [i32_lt0] at h1
    exact ⟨fun _ => by omega, fun _ => rfl⟩
  rw [if_neg h1]; rw [i32_lt0] at h1
  by_cases h2 : 5 < v
  · rw [if_pos h2]; rw [i32_lt] at h2
    exact ⟨fun _ => by omega, fun _ => rfl⟩
  rw [if_neg h2]; rw [i32_lt] at h2
  exact ⟨fun q => absurd q (by decide), fun q => absurd (by omega) q⟩
theorem st_saysS {U : sU} (h : Inv U) (s v : Int32) : Two (f_119 s v U) (f_188 s v) := by
  have h0 := h
  have e5' : (5 : Int32).toInt = 5 := rfl
  obtain ⟨nT, nM, h⟩ := h
  have n5 : ∀ w a j, (1 ≤ w.toInt ∧ w.toInt ≤ 7) → a ≠ 209 → (f_157 w U).2.1 a j = U.1 a j := fun w a j r q => f157_1 r q
  by_cases hs : s < 0 ∨ 8 ≤ s
  · exact ref_to h0 (w := 1) (by decide) (by unfold f_119; rw [sat_no hs]) (by unfold f_188; rw [if_pos (f177_no hs)])
  obtain ⟨e1, e2, e3, e4⟩ := sat_yes hs
  by_cases hv : 0 ≤ v.toInt ∧ v.toInt ≤ 5
  case neg =>
    refine ref_to h0 (w := 1) (by decide) (by unfold f_119; rw [e1]; dsimp only; rw [if_pos (f166_iff.mpr hv)]) ?_
    unfold f_188
    rw [if_neg (f177_yes hs)]
    by_cases v0 : v < 0
    · rw [if_pos v0]
    · rw [if_neg v0, if_neg]
      rw [i32_lt0] at v0
      rw [i32_le]
      omega
  have c6 : ¬ f_166 v U = 0 := fun q => f166_iff.mp q hv
  have v0 : ¬ v < 0 := by rw [i32_lt0]; omega
  have v5 : v ≤ 5 := by rw [i32_le]; omega
  rcases h.2.1 _ e2 with ⟨a1, a2, a3⟩ | ⟨a1, a2, o, n, a3, a4, a5, a6, a7, a8, a9⟩ | ⟨a1, a2, a3, m, am, a4, a5⟩
  · have c80 : f_80 (264 + 2 * s.toNatClampNeg) U = 0 := by unfold f_80; rw [a1]; rfl
    have c81 : f_81 (264 + 2 * s.toNatClampNeg) U = 0 := by unfold f_81; rw [a1]; rfl
    refine ref_to h0 (w := 3) (by decide) (by unfold f_119; rw [e1]; dsimp only; rw [if_neg c6, if_pos c80, if_pos c81]; unfold f_119_58; rfl) ?_
    unfold f_188
    rw [if_neg (f177_yes hs), if_neg v0, if_pos v5, if_pos e3, n5 3 282 _ (by decide) (by decide), a2, if_neg (by decide), if_pos e3, if_neg (by decide)]
    unfold f_188_69
    rw [if_pos e3, n5 3 282 _ (by decide) (by decide), a2, if_pos rfl]
  · have c80 : ¬ f_80 (264 + 2 * s.toNatClampNeg) U = 0 := by unfold f_80; rw [a1]; decide
    refine ref_to h0 (w := 2) (by decide) (by unfold f_119; rw [e1]; dsimp only; rw [if_neg c6, if_neg c80]) ?_
    unfold f_188
    rw [if_neg (f177_yes hs), if_neg v0, if_pos v5, if_pos e3, n5 2 282 _ (by decide) (by decide), a2, if_pos rfl]
  have c80 : f_80 (264 + 2 * s.toNatClampNeg) U = 0 := by unfold f_80; rw [a1]; rfl
  have c81 : ¬ f_81 (264 + 2 * s.toNatClampNeg) U = 0 := by unfold f_81; rw [a1]; decide
  have n12 := h.1.1.2.2.2.1
  have hm : 0 ≤ (Int32.ofNat m).toInt ∧ (Int32.ofNat m).toInt < nM := by rw [ofNat_int (by omega)]; omega
  have cm : (Int32.ofNat m).toNatClampNeg = m := ofNat_clamp (by omega)
  obtain ⟨m1, m2, m3, m4, _⟩ := mat_yes h hm
  rw [cm] at m1 m4
  obtain ⟨q1, q2, q3, q4, q5, q6⟩ := mg_facts h am
  obtain ⟨b, b1, b2, b3⟩ := used_eq h hm
  rw [cm] at b2
  have key : f_119 s v U = f_119_58 v (some (45 + 5 * m)) U := by
    unfold f_119
    rw [e1]
    dsimp only
    rw [if_neg c6, if_pos c80, if_neg c81, a4, m1]
  have mk : ∀ V : sU, V.1 282 s.toNatClampNeg = 2 → V.1 285 s.toNatClampNeg = Int32.ofNat m → V.1 299 m = U.1 (45 + 5 * m) 2 → f_188 s v V = if f_187 (U.1 (45 + 5 * m) 2) v V = 0 then (f_174 (-2) V).bind fun q => some (q.1, q.2) else f_188_69 s v V := by
    intro V y1 y2 y3
    unfold f_188
    rw [if_neg (f177_yes hs), if_neg v0, if_pos v5, if_pos e3, y1, if_neg (by decide), if_pos e3, if_pos rfl, if_pos e3, y2, if_pos m3, cm, y3]
  have ue : ∀ V, f_167 (U.1 (45 + 5 * m) 2) v U = f_187 (U.1 (45 + 5 * m) 2) v V := fun V => under_eq q3 hv
  rw [key]
  unfold f_119_58
  dsimp only
  by_cases cu : f_167 (U.1 (45 + 5 * m) 2) v U = 0
  · refine ref_to h0 (w := 2) (by decide) (by rw [if_pos cu]) ?_
    rw [mk _ ((n5 2 282 _ (by decide) (by decide)).trans a2) ((n5 2 285 _ (by decide) (by decide)).trans a5) ((n5 2 299 _ (by decide) (by decide)).trans q1), ← ue, if_pos cu]
  rw [if_neg cu]
  have mk0 : f_188 s v U = f_188_69 s v U := by rw [mk U a2 a5 q1, ← ue, if_neg cu]
  have fin : ∀ r, f_188_69 s v U = some (r, U) → Two (some (r, U)) (f_188 s v) := fun r hr => ⟨r, U, U, rfl, mk0.trans hr, h0⟩
  by_cases w0 : v = 0
  · rw [if_pos w0]
    refine fin _ ?_
    unfold f_188_69
    rw [if_pos e3, a2, if_neg (by decide), if_pos e3, if_pos w0, a5, if_pos m3, cm, q2]
  rw [if_neg w0]
  by_cases w2 : v = 2
  · rw [if_pos w2]
    refine fin _ ?_
    have k2 : U.1 (45 + 5 * m) 2 = 2 := by
      subst w2
      by_cases hc : U.1 (45 + 5 * m) 2 = 2
      · exact hc
      · refine absurd ?_ cu
        rw [ue U]
        unfold f_187
        rw [if_neg (by decide), if_neg hc, if_neg (by decide)]
    unfold f_188_69
    rw [if_pos e3, a2, if_neg (by decide), if_pos e3, if_neg w0, if_pos w2, a5, if_pos m3, cm, (q4 k2).1]
  rw [if_neg w2]
  by_cases w5 : v = 5
  · rw [if_pos w5]
    refine fin _ ?_
    obtain ⟨z1, z2⟩ := mul12 (s := Int32.ofNat m) (i := 0) (n := m) (m := 0) (ofNat_int (by omega)) rfl (by omega) (by omega)
    rw [Int32.add_zero] at z1 z2
    have l := ln_mg m (by omega)
    have g : iget (45 + 5 * m + 3) 0 U = U.1 (49 + 5 * m) 0 := by
      unfold iget
      rw [if_pos (by rw [l.2]; decide), show 45 + 5 * m + 3 + 1 = 49 + 5 * m by omega]
      rfl
    unfold f_188_69
    rw [if_pos e3, a2, if_neg (by decide), if_pos e3, if_neg w0, if_neg w2, if_pos w5, a5, if_pos (ib_int.mpr (by omega)), z2, (q6 0 (by omega)).1, g]
  rw [if_neg w5, b2]
  refine fin _ ?_
  unfold f_188_69
  rw [if_pos e3, a2, if_neg (by decide), if_pos e3, if_neg w0, if_neg w2, if_neg w5, a5]
  unfold f_218
  rw [b3]
  dsimp only [Option.bind_some]
  rw [pop_eq b1 U U]
  rfl
