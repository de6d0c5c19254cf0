/-! talk: numbers -/
def zdg (U : sU) (s L p : Nat) : Prop := p < L ∧ 48 ≤ (rW U s p).toInt ∧ (rW U s p).toInt ≤ 57
theorem sub48 {x : Int32} (h : 48 ≤ x.toInt ∧ x.toInt ≤ 57) : (x - 48).toInt = x.toInt - 48 := s32 (by have : (48 : Int32).toInt = 48 := rfl; omega) (by have : (48 : Int32).toInt = 48 := rfl; omega)
theorem dig_c {U V0 S V : sU} {s L p : Nat} (hE : zEnv U V0 s L) (h : Jp U V0 s L S V p) : zdg U s L p ↔ (¬ (iget 216 (S.1 215 2) S - 48) < 0 ∧ (iget 216 (S.1 215 2) S - 48) ≤ 9) := by
  have e48 : (48 : Int32).toInt = 48 := rfl
  have e9 : (9 : Int32).toInt = 9 := rfl
  rw [letter_c hE h]
  unfold zT zdg
  by_cases c : p < L
  · rw [if_pos c]
    generalize rW U s p = x
    rw [i32_lt0, i32_le, e9]
    have l1 := x.toInt_lt
    have l2 := x.le_toInt
    by_cases d : -2147483600 ≤ x.toInt
    · have e : (x - 48).toInt = x.toInt - 48 := s32 (by omega) (by omega)
      rw [e]
      exact ⟨fun q => ⟨by omega, by omega⟩, fun q => ⟨c, by omega, by omega⟩⟩
    · have e : (x - 48).toInt = x.toInt - 48 + 4294967296 := by
        rw [Int32.toInt_sub, e48]
        unfold Int.bmod
        dsimp only
        split <;> omega
      rw [e]
      exact ⟨fun q => by omega, fun q => by omega⟩
  · rw [if_neg c]
    exact ⟨fun q => absurd q.1 c, fun q => absurd (by decide : (0 : Int32) - 48 < 0) q.1⟩
theorem dig_m {U V0 S V : sU} {s L p : Nat} (hE : zEnv U V0 s L) (h : Jp U V0 s L S V p) [Decidable (zdg U s L p)] : f_192 V = some (if zdg U s L p then 1 else 0) := by
  have e48 : (48 : Int32).toInt = 48 := rfl
  have e57 : (57 : Int32).toInt = 57 := rfl
  unfold f_192
  by_cases c : p < L
  · rw [if_neg (fun q => (end_m hE h).mp q c), letter_m hE h, Option.bind_some, if_pos c, Option.bind_some]
    by_cases c1 : rW U s p < 48
    · rw [if_pos c1, if_neg]
      rw [i32_lt] at c1
      intro q; unfold zdg at q; omega
    rw [if_neg c1]
    rw [i32_lt] at c1
    by_cases c2 : 57 < rW U s p
    · rw [if_pos c2, if_neg]
      rw [i32_lt] at c2
      intro q; unfold zdg at q; omega
    · rw [if_neg c2, if_pos]
      rw [i32_lt] at c2
      exact ⟨c, by omega, by omega⟩
  · rw [if_pos ((end_m hE h).mpr c), if_neg (fun q => c q.1)]
