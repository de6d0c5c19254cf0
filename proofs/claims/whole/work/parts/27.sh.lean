/-! element, holds, set, show -/
theorem f85_iff {a : Nat} {x : Int32} {U : sU} : f_85 a x U = 0 ↔ ¬ (0 ≤ x.toInt ∧ x.toInt < (U.1 a 3).toInt ∧ x.toInt < ln (a + 1)) := by
  have hl := ln_lt (a + 1)
  unfold f_85
  by_cases h1 : x < 0
  · rw [if_pos h1]; rw [i32_lt0] at h1
    exact ⟨fun _ => by omega, fun _ => rfl⟩
  rw [if_neg h1]; rw [i32_lt0] at h1
  by_cases h2 : U.1 a 3 ≤ x
  · rw [if_pos h2]; rw [i32_le] at h2
    exact ⟨fun _ => by omega, fun _ => rfl⟩
  rw [if_neg h2]; rw [i32_le] at h2
  by_cases h3 : Int32.ofNat (ln (a + 1)) ≤ x
  · rw [if_pos h3]; rw [i32_le, ofNat_int (by omega)] at h3
    exact ⟨fun _ => by omega, fun _ => rfl⟩
  rw [if_neg h3]; rw [i32_le, ofNat_int (by omega)] at h3
  exact ⟨fun q => absurd q (by decide), fun q => absurd (by omega) q⟩
theorem i32_eq {x y : Int32} : x = y ↔ x.toInt = y.toInt := Int32.toInt_inj.symm
theorem st_element {U : sU} (h : Inv U) (s i : Int32) : Two (some (f_116 s i U, U)) (fun U => (f_184 s i U).map fun r => (r, U)) := by
  refine ⟨_, U, U, rfl, ?_, h⟩
  unfold f_116 f_184
  by_cases hs : s < 0 ∨ 8 ≤ s
  · rw [sat_no hs]
    dsimp only
    rw [if_pos (f177_no hs)]
    rfl
  obtain ⟨e1, e2, e3, e4⟩ := sat_yes hs
  obtain ⟨nT, nM, h⟩ := h
  rw [e1]
  dsimp only
  rw [if_neg (f177_yes hs), if_pos e3, if_pos e3]
  unfold jget
  have e85 := f85_iff (a := 264 + 2 * s.toNatClampNeg) (x := i) (U := U)
  have el : 264 + 2 * s.toNatClampNeg + 1 = 265 + 2 * s.toNatClampNeg := by omega
  rw [el] at e85 ⊢
  rw [ln_sh _ e2] at e85
  rcases h.2.1 _ e2 with ⟨a1, a2, a3⟩ | ⟨a1, a2, o, n, a3, a4, a5, a6, a7, a8, a9⟩ | ⟨a1, a2, a3, _⟩
  · rw [a2, if_neg (by decide), if_pos (e85.mpr (by rw [a3]; have : (0 : Int32).toInt = 0 := rfl; omega))]
    rfl
  · rw [a2, if_pos rfl]
    rw [a7, ofNat_int (by omega)] at e85
    rw [a8]
    by_cases h1 : i < 0
    · rw [if_pos h1]
      rw [i32_lt0] at h1
      rw [if_pos (e85.mpr (by omega))]
      rfl
    rw [if_neg h1]
    rw [i32_lt0] at h1
    by_cases h2 : Int32.ofNat n ≤ i
    · rw [if_pos h2]
      rw [i32_le, ofNat_int (by omega)] at h2
      rw [if_pos (e85.mpr (by omega))]
      rfl
    rw [if_neg h2]
    rw [i32_le, ofNat_int (by omega)] at h2
    have ei : i.toInt = i.toNatClampNeg := by rw [clamp_int]; omega
    have hm := mul64 e4 ei e2 (by omega)
    have hc : (64 * s + i).toNatClampNeg = 64 * s.toNatClampNeg + i.toNatClampNeg := by rw [clamp_int, hm]; omega
    rw [if_neg (fun q => absurd (e85.mp q) (by omega)), if_pos (ib_int.mpr (by omega)), hc, a9 _ (by omega)]
    rfl
  · rw [a2, if_neg (by decide), if_pos (e85.mpr (by rw [a3]; have : (0 : Int32).toInt = 0 := rfl; omega))]
    rfl
theorem st_holds {U : sU} (h : Inv U) (s : Int32) : Two (some (f_118 s U, U)) (fun U => (f_186 s U).map fun r => (r, U)) := by
  refine ⟨_, U, U, rfl, ?_, h⟩
  unfold f_118 f_186
  by_cases hs : s < 0 ∨ 8 ≤ s
  · rw [sat_no hs]
    dsimp only
    rw [if_pos (f177_no hs)]
    rfl
  obtain ⟨e1, e2, e3, e4⟩ := sat_yes hs
  obtain ⟨nT, nM, h⟩ := h
  rw [e1]
  dsimp only
  rw [if_neg (f177_yes hs), if_pos e3, if_pos e3, if_pos e3, if_pos e3]
  unfold f_80 f_81
  rcases h.2.1 _ e2 with ⟨a1, a2, a3⟩ | ⟨a1, a2, o, n, a3, a4, a5, a6, a7, a8, a9⟩ | ⟨a1, a2, a3, m, _, a4, a5⟩
  · rw [a1, a2]
    rfl
  · rw [a1, a2, a5, a6]
    rfl
  · rw [a1, a2, a4, a5]
    rfl
theorem rowFlaw_eq {U : sU} {nT nM : Nat} (h : InvN nT nM U) {s : Int32} (hs : ¬ (s < 0 ∨ 8 ≤ s)) : f_161 s U = if U.1 282 s.toNatClampNeg = 2 then 2 else if U.1 282 s.toNatClampNeg = 0 then 3 else 0 := by
  obtain ⟨e1, e2, e3, e4⟩ := sat_yes hs
  unfold f_161
  rw [e1]
  dsimp only
  unfold f_80 f_81
  rcases h.2.1 _ e2 with ⟨a1, a2, _⟩ | ⟨a1, a2, _⟩ | ⟨a1, a2, _⟩ <;> rw [a1, a2] <;> rfl
theorem rowFlaw_no {U : sU} {s : Int32} (hs : s < 0 ∨ 8 ≤ s) : f_161 s U = 1 := by
  unfold f_161
  rw [sat_no hs]
