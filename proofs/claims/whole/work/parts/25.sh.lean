/-! shelves: row, set, element, show, holds -/
theorem InvN_sh {U V : sU} {nT nM s : Nat} (hs : s < 8) (h : InvN nT nM U) (e : ∀ a j, a ≠ 264 + 2 * s → ¬ (282 ≤ a ∧ a < 286 ∧ j = s) → V.1 a j = U.1 a j) (e2 : ∀ t, t < 8 → t ≠ s → ∀ i, i < 64 → V.2.1 286 (64 * t + i) = U.2.1 286 (64 * t + i) ∧ V.2.1 (265 + 2 * t) i = U.2.1 (265 + 2 * t) i) (hv : rShelf V nM s) : InvN nT nM V := by
  obtain ⟨k1, k2, k3, k4, k5, k6⟩ := h
  refine ⟨rNow_congr (fun a j q r => e a j (by omega) (by omega)) (fun a j q r => e a j (by omega) (by omega)) (e 280 0 (by omega) (by omega)) (e 280 1 (by omega) (by omega)) k1, ?_, ?_, ?_, ?_, ?_⟩
  · intro t ht
    by_cases hts : t = s
    · subst hts; exact hv
    · exact rShelf_congr (fun j => e _ _ (by omega) (by omega)) (fun a q r => e _ _ (by omega) (by omega)) (fun i hi => (e2 t ht hts i hi).1) (fun i hi => (e2 t ht hts i hi).2) (k2 t ht)
  · intro i hi
    rw [e 281 i (by omega) (by omega), e 209 i (by omega) (by omega)]
    exact k3 i hi
  · rw [e 280 2 (by omega) (by omega), e 0 5 (by omega) (by omega)]
    exact k4
  · refine ⟨?_, ?_, ?_⟩
    · rw [e 280 53 (by omega) (by omega), e 261 4 (by omega) (by omega)]; exact k5.1
    · rw [e 261 4 (by omega) (by omega)]; exact k5.2.1
    · intro i hi
      rw [e 312 i (by omega) (by omega), e 263 i (by omega) (by omega)]; exact k5.2.2 i hi
  · exact rImg_congr (e 0 3 (by omega) (by omega)) (fun a j q r => e a j (by omega) (by omega)) (fun j => e _ _ (by omega) (by omega)) (e 280 54 (by omega) (by omega)) (e 280 55 (by omega) (by omega)) (fun t ht => Or.inl (e _ _ (by omega) (by omega))) k6
/-- one call on both sides: the same answer, and what is common stays -/
def Two {α : Type} (c : Option (α × sU)) (g : sU → Option (α × sU)) : Prop := ∃ r U1 V, c = some (r, U1) ∧ g U1 = some (r, V) ∧ Inv V
theorem ref_fin {U : sU} {w : Int32} (h : Inv U) (hw : 1 ≤ w.toInt ∧ w.toInt ≤ 7) : Two (some (f_157 w U)) (fun U => (f_174 (-w) U).bind fun q => some (q.1, q.2)) := by
  obtain ⟨nT, nM, h⟩ := h
  obtain ⟨V, h1, h2⟩ := ref_step hw h
  refine ⟨-w, (f_157 w U).2, V, ?_, ?_, ⟨nT, nM, h2⟩⟩
  · rw [f157_eq hw]
  · dsimp only
    rw [h1]
    rfl
theorem ref_to {U : sU} {c : Option (Int32 × sU)} {g : sU → Option (Int32 × sU)} {w : Int32} (h : Inv U) (hw : 1 ≤ w.toInt ∧ w.toInt ≤ 7) (hc : c = some (f_157 w U)) (hg : g (f_157 w U).2 = (f_174 (-w) (f_157 w U).2).bind fun q => some (q.1, q.2)) : Two c g := by
  obtain ⟨r, U1, V, h1, h2, h3⟩ := ref_fin h hw
  cases h1
  exact ⟨_, _, V, hc, hg.trans h2, h3⟩
theorem sat_no {s : Int32} (h : s < 0 ∨ 8 ≤ s) : sat s = none := by
  unfold sat
  rcases h with h | h
  · rw [if_pos h]
  · by_cases h1 : s < 0
    · rw [if_pos h1]
    · rw [if_neg h1, if_pos h]
theorem sat_yes {s : Int32} (h : ¬ (s < 0 ∨ 8 ≤ s)) : sat s = some (264 + 2 * s.toNatClampNeg) ∧ s.toNatClampNeg < 8 ∧ ib s 8 ∧ s.toInt = s.toNatClampNeg := by
  have h1 : ¬ s < 0 := fun q => h (Or.inl q)
  have h2 : ¬ (8 : Int32) ≤ s := fun q => h (Or.inr q)
  have e := clamp_int s
  have e8 : (8 : Int32).toInt = 8 := rfl
  unfold sat
  rw [if_neg h1, if_neg h2]
  rw [i32_lt0] at h1
  rw [i32_le] at h2
  exact ⟨rfl, by omega, ib_int.mpr (by omega), by omega⟩
theorem f177_no {s : Int32} {U : sU} (h : s < 0 ∨ 8 ≤ s) : f_177 s U = 0 := by
  unfold f_177
  rcases h with h | h
  · rw [if_pos h]
  · by_cases h1 : s < 0
    · rw [if_pos h1]
    · rw [if_neg h1, if_pos h]
theorem f177_yes {s : Int32} {U : sU} (h : ¬ (s < 0 ∨ 8 ≤ s)) : ¬ f_177 s U = 0 := by
  unfold f_177
  rw [if_neg (fun q => h (Or.inl q)), if_neg (fun q => h (Or.inr q))]
  decide
theorem i32_nat {x : Int32} (h : 0 ≤ x.toInt) : x = Int32.ofNat x.toNatClampNeg := by
  have := x.toInt_lt
  apply Int32.toInt_inj.mp
  rw [clamp_int, ofNat_int (by omega)]
  omega
theorem mul64 {s i : Int32} {n m : Nat} (hs : s.toInt = n) (hi : i.toInt = m) (hn : n < 8) (hm : m < 512) : (64 * s + i).toInt = 64 * n + m := by
  rw [Int32.toInt_add, Int32.toInt_mul, hs, hi]
  have : (64 : Int32).toInt = 64 := rfl
  rw [this, Int.bmod_eq_of_le (n := 64 * (n : Int)) (by omega) (by omega), Int.bmod_eq_of_le (by omega) (by omega)]
theorem st_fault {U : sU} (h : Inv U) : Two (some (f_121 U, U)) (fun U => some (f_205 U, U)) := by
  refine ⟨_, _, U, rfl, ?_, h⟩
  obtain ⟨nT, nM, k⟩ := h
  have : U.1 280 2 = U.1 0 5 := k.2.2.2.1
  unfold f_121 f_205
  dsimp only
  rw [this]
