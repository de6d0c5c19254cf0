/-! what is best done, by weights -/
def zc (v : Int) : Int := if v < 0 then 0 else if 999 < v then 999 else v
def zlst (q : Int32) (n : Nat) (wt y : Nat → Int) : Int :=
  if q = 0 then zc (-((zs wt n - 2 * zs (fun i => wt i * y i) n) / (2 * zs wt n)))
  else match zf (fun t => decide (zs wt n ≤ 2 * zs wt (t + 1))) n 0 with
    | some t => zc (y t)
    | none => 0
theorem zc_bd (v : Int) : 0 ≤ zc v ∧ zc v ≤ 999 := by
  unfold zc
  split
  · omega
  · split <;> omega
theorem zlst_bd {q : Int32} {n : Nat} {wt y : Nat → Int} : 0 ≤ zlst q n wt y ∧ zlst q n wt y ≤ 999 := by
  unfold zlst
  split
  · exact zc_bd _
  · split
    · exact zc_bd _
    · omega
theorem zlst_congr {q : Int32} {n : Nat} {wt y wt' y' : Nat → Int} (h1 : ∀ i, i < n → wt i = wt' i) (h2 : ∀ i, i < n → y i = y' i) : zlst q n wt y = zlst q n wt' y' := by
  have e1 : zs wt n = zs wt' n := zs_congr h1
  have e2 : zs (fun i => wt i * y i) n = zs (fun i => wt' i * y' i) n := zs_congr (fun i hi => by rw [h1 i hi, h2 i hi])
  unfold zlst
  rw [e1, e2]
  split
  · rfl
  · have e3 : zf (fun t => decide (zs wt' n ≤ 2 * zs wt (t + 1))) n 0 = zf (fun t => decide (zs wt' n ≤ 2 * zs wt' (t + 1))) n 0 := zf_congr (fun i _ hi => by rw [zs_congr (f := wt) (g := wt') (n := i + 1) (fun j hj => h1 j (by omega))])
    rw [e3]
    cases h : zf (fun t => decide (zs wt' n ≤ 2 * zs wt' (t + 1))) n 0 with
    | none => rfl
    | some t => dsimp only; rw [h2 t (by have := zf_some h; omega)]
theorem within_int {x : Int64} {U : sU} : (f_172 x 0 999 U).toInt = zc x.toInt := by
  have e0 : (0 : Int32).toInt64.toInt = 0 := rfl
  have e9 : (999 : Int32).toInt64.toInt = 999 := rfl
  have f0 : (0 : Int32).toInt = 0 := rfl
  have f9 : (999 : Int32).toInt = 999 := rfl
  unfold f_172 zc
  by_cases h : 0 ≤ lg_cmp x (0 : Int32).toInt64
  · rw [if_pos h]
    rw [cmp_ge, e0] at h
    rw [if_neg (by omega : ¬ x.toInt < 0)]
    by_cases h2 : lg_cmp x (999 : Int32).toInt64 ≤ 0
    · rw [if_pos h2]
      rw [cmp_le, e9] at h2
      rw [if_neg (by omega), t32 (by omega) (by omega)]
    · rw [if_neg h2]
      rw [cmp_le, e9] at h2
      rw [if_pos (by omega), f9]
  · rw [if_neg h]
    rw [cmp_ge, e0] at h
    rw [if_pos (by omega), f0]
theorem f50_eq {w s : Int64} {U : sU} (h1 : 0 ≤ w.toInt) (h2 : w.toInt ≤ 1000000000000) (h3 : -1000000000000000 ≤ s.toInt) (h4 : s.toInt ≤ 1000000000000000) : ∃ r, f_50 w s U = some r ∧ r.toInt = zc (-((w.toInt - 2 * s.toInt) / (2 * w.toInt))) := by
  have e0 : (0 : Int64).toInt = 0 := rfl
  have e2 : (2 : Int64).toInt = 2 := rfl
  have k1 : (2 * w).toInt = 2 * w.toInt := by rw [m64 (by rw [e2]; omega) (by rw [e2]; omega), e2]
  have k2 : (2 * s).toInt = 2 * s.toInt := by rw [m64 (by rw [e2]; omega) (by rw [e2]; omega), e2]
  have k3 : (w - 2 * s).toInt = w.toInt - 2 * s.toInt := by rw [s64 (by rw [k2]; omega) (by rw [k2]; omega), k2]
  unfold f_50
  by_cases h : w.toInt = 0
  · rw [if_pos (by rw [cmp_eq, k1, e0]; omega)]
    refine ⟨0, rfl, ?_⟩
    rw [h, Int.mul_zero, Int.ediv_zero]
    rfl
  · rw [if_neg (by rw [cmp_eq, k1, e0]; omega)]
    obtain ⟨r, r1, r2⟩ := f284_eq (x := w - 2 * s) (y := 2 * w) (U := U) (by omega) (by omega)
    have lo : -10000000000000000 ≤ r.toInt := by
      rw [r2, k1, k3]
      exact (Int.le_ediv_iff_mul_le (by omega)).mpr (by omega)
    rw [r1]
    dsimp only [Option.bind_some]
    refine ⟨_, rfl, ?_⟩
    rw [within_int, n64 (by omega), r2, k3, k1]
/-- the mean, rounded as the reference rounds it -/
theorem mean_eq {s a d : Int} (ha : 0 < a) (h1 : a * d ≤ s) (h2 : s < a * d + a) : -((a - 2 * s) / (2 * a)) = if 2 * (s - a * d) ≤ a then d else d + 1 := by
  split
  · rw [ediv_uniq (q := -d) (by omega) (by rw [Int.mul_neg, Int.mul_assoc]; omega) (by rw [Int.mul_neg, Int.mul_assoc]; omega)]
    omega
  · rw [ediv_uniq (q := -d - 1) (by omega) (by rw [Int.mul_sub, Int.mul_neg, Int.mul_assoc]; omega) (by rw [Int.mul_sub, Int.mul_neg, Int.mul_assoc]; omega)]
    omega
theorem f176_int {v : Int64} {U : sU} : ∃ r, f_209_176 v U = some r ∧ r.toInt = zc v.toInt := by
  have e0 : (0 : Int64).toInt = 0 := rfl
  have e9 : (999 : Int64).toInt = 999 := rfl
  have f0 : (0 : Int32).toInt = 0 := rfl
  have f9 : (999 : Int32).toInt = 999 := rfl
  unfold f_209_176 zc
  by_cases h : 0 ≤ lg_cmp v 0
  · rw [if_pos h]
    rw [cmp_ge, e0] at h
    rw [if_neg (by omega : ¬ v.toInt < 0)]
    by_cases h2 : lg_cmp v 999 ≤ 0
    · rw [if_pos h2]
      rw [cmp_le, e9] at h2
      exact ⟨_, rfl, by rw [if_neg (by omega), t32 (by omega) (by omega)]⟩
    · rw [if_neg h2]
      rw [cmp_le, e9] at h2
      exact ⟨_, rfl, by rw [if_pos (by omega), f9]⟩
  · rw [if_neg h]
    rw [cmp_ge, e0] at h
    exact ⟨_, rfl, by rw [if_pos (by omega), f0]⟩
theorem f94_int {a s d : Int64} {U : sU} (ha : 0 < a.toInt) (hA : a.toInt ≤ 1000000000000) (hd : -1000000000000000 ≤ d.toInt ∧ d.toInt ≤ 1000000000000000) (h1 : a.toInt * d.toInt ≤ s.toInt) (h2 : s.toInt < a.toInt * d.toInt + a.toInt) (hs : -1000000000000000 ≤ s.toInt ∧ s.toInt ≤ 1000000000000000) : ∃ r, f_209_94 a s d U = some r ∧ r.toInt = zc (-((a.toInt - 2 * s.toInt) / (2 * a.toInt))) := by
  have e1 : (1 : Int64).toInt = 1 := rfl
  have e2 : (2 : Int64).toInt = 2 := rfl
  have k1 : (d * a).toInt = a.toInt * d.toInt := by
    have e : d.toInt * a.toInt = a.toInt * d.toInt := Int.mul_comm _ _
    rw [m64 (by omega) (by omega), e]
  have k2 : (s - d * a).toInt = s.toInt - a.toInt * d.toInt := by rw [s64 (by rw [k1]; omega) (by rw [k1]; omega), k1]
  have k3 : (2 * (s - d * a)).toInt = 2 * (s.toInt - a.toInt * d.toInt) := by rw [m64 (by rw [e2, k2]; omega) (by rw [e2, k2]; omega), e2, k2]
  rw [mean_eq ha h1 h2]
  unfold f_209_94
  by_cases h : 2 * (s.toInt - a.toInt * d.toInt) ≤ a.toInt
  · rw [if_pos (cmp_le.mpr (by rw [k3]; exact h)), if_pos h]
    exact f176_int
  · rw [if_neg (fun g => h (by have := cmp_le.mp g; rwa [k3] at this)), if_neg h]
    obtain ⟨r, r1, r2⟩ := f176_int (v := d + 1) (U := U)
    refine ⟨r, r1, ?_⟩
    rw [r2, a64 (by rw [e1]; omega) (by rw [e1]; omega), e1]
/-- the reference's mean -/
theorem mean_m {a s : Int64} {U : sU} (ha : 0 < a.toInt) (hA : a.toInt ≤ 1000000000000) (hs : -1000000000000 ≤ s.toInt ∧ s.toInt ≤ 1000000000000) : ∃ r, (if lg_cmp ((s / a) * a) s ≤ 0 then f_209_94 a s (s / a) U else f_209_94 a s ((s / a) - 1) U) = some r ∧ r.toInt = zc (-((a.toInt - 2 * s.toInt) / (2 * a.toInt))) := by
  have e1 : (1 : Int64).toInt = 1 := rfl
  have k := div64 (x := s) ha
  have b := tdiv_bd (a := s.toInt) ha
  have f := floor_of (a := s.toInt) ha
  have g1 := Int.mul_ediv_add_emod s.toInt a.toInt
  have g2 := Int.emod_nonneg s.toInt (by omega : a.toInt ≠ 0)
  have g3 := Int.emod_lt_of_pos s.toInt ha
  by_cases h0 : 0 ≤ s.toInt
  · have b1 := b.1 h0
    have et : s.toInt.tdiv a.toInt = s.toInt / a.toInt := Int.tdiv_eq_ediv_of_nonneg h0
    have em : (s / a * a).toInt = a.toInt * (s.toInt / a.toInt) := by
      have e : s.toInt / a.toInt * a.toInt = a.toInt * (s.toInt / a.toInt) := Int.mul_comm _ _
      rw [m64 (by rw [k, et]; omega) (by rw [k, et]; omega), k, et, e]
    rw [if_pos (by rw [cmp_le, em]; omega)]
    exact f94_int ha hA (by rw [k]; omega) (by rw [k, et]; omega) (by rw [k, et]; omega) (by omega)
  · have b2 := b.2 (by omega)
    obtain ⟨q1, q2, q3⟩ := f (by omega)
    have em : (s / a * a).toInt = s.toInt.tdiv a.toInt * a.toInt := by
      have := Int.mul_nonpos_of_nonpos_of_nonneg b2.2 (by omega : 0 ≤ a.toInt)
      rw [m64 (by rw [k]; omega) (by rw [k]; omega), k]
    by_cases h : s.toInt.tdiv a.toInt * a.toInt = s.toInt
    · have q1 := q1 h
      rw [if_pos (by rw [cmp_le, em]; omega)]
      exact f94_int ha hA (by rw [k]; omega) (by rw [k, ← q1]; omega) (by rw [k, ← q1]; omega) (by omega)
    · have q2 := q2 h
      have ek : (s / a - 1).toInt = s.toInt / a.toInt := by rw [s64 (by rw [k, e1]; omega) (by rw [k, e1]; omega), k, e1, q2]
      rw [if_neg (by rw [cmp_le, em]; omega)]
      exact f94_int ha hA (by rw [ek]; omega) (by rw [ek]; omega) (by rw [ek]; omega) (by omega)
