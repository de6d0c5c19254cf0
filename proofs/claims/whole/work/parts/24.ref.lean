/-! refusals on both sides; a step of the law -/
theorem sI_ne {U : sU} {a i b j : Nat} {v : Int32} (h : b ≠ a) : (sI U a i v).1 b j = U.1 b j := if_neg h
theorem sI_nj {U : sU} {a i j : Nat} {v : Int32} (h : j ≠ i) : (sI U a i v).1 a j = U.1 a j := (if_pos rfl).trans (if_neg h)
theorem sI_at {U : sU} {a i : Nat} {v : Int32} : (sI U a i v).1 a i = v := (if_pos rfl).trans (if_pos rfl)
theorem sI_2 {U : sU} {a i : Nat} {v : Int32} : (sI U a i v).2 = U.2 := rfl
theorem sJ_1 {U : sU} {a i : Nat} {v : Int64} : (sJ U a i v).1 = U.1 := rfl
theorem sJ_ne {U : sU} {a i b j : Nat} {v : Int64} (h : b ≠ a) : (sJ U a i v).2.1 b j = U.2.1 b j := if_neg h
theorem sJ_nj {U : sU} {a i j : Nat} {v : Int64} (h : j ≠ i) : (sJ U a i v).2.1 a j = U.2.1 a j := (if_pos rfl).trans (if_neg h)
theorem sJ_at {U : sU} {a i : Nat} {v : Int64} : (sJ U a i v).2.1 a i = v := (if_pos rfl).trans (if_pos rfl)
theorem InvN_ref {U : sU} {nT nM k : Nat} (hk : k < 8) (h : InvN nT nM U) : InvN nT nM (sI (sI U 209 k (U.1 209 k + 1)) 281 k (U.1 281 k + 1)) := by
  obtain ⟨k1, k2, k3, k4, k5, k6⟩ := h
  have e : ∀ a j, a ≠ 209 → a ≠ 281 → (sI (sI U 209 k (U.1 209 k + 1)) 281 k (U.1 281 k + 1)).1 a j = U.1 a j := fun a j h1 h2 => (sI_ne h2).trans (sI_ne h1)
  refine ⟨rNow_congr (fun a j q r => e a j (by omega) (by omega)) (fun a j q r => e a j (by omega) (by omega)) (e 280 0 (by omega) (by omega)) (e 280 1 (by omega) (by omega)) k1, ?_, ?_, ?_, ?_, ?_⟩
  · intro s hs
    exact rShelf_congr (fun j => e _ _ (by omega) (by omega)) (fun a q r => e _ _ (by omega) (by omega)) (fun i hi => rfl) (fun i hi => rfl) (k2 s hs)
  · intro i hi
    by_cases hik : i = k
    · subst hik
      rw [sI_at, sI_ne (by omega), sI_at, k3 i hi]
    · rw [sI_nj hik, sI_ne (by omega), sI_ne (by omega), sI_nj hik]
      exact k3 i hi
  · rw [e 280 2 (by omega) (by omega), e 0 5 (by omega) (by omega)]
    exact k4
  · refine ⟨?_, ?_, ?_⟩
    · rw [e 280 53 (by omega) (by omega), e 261 4 (by omega) (by omega)]; exact k5.1
    · rw [e 261 4 (by omega) (by omega)]; exact k5.2.1
    · intro i hi
      rw [e 312 i (by omega) (by omega), e 263 i (by omega) (by omega)]; exact k5.2.2 i hi
  · exact rImg_congr (e 0 3 (by omega) (by omega)) (fun a j q r => e a j (by omega) (by omega)) (fun j => e _ _ (by omega) (by omega)) (e 280 54 (by omega) (by omega)) (e 280 55 (by omega) (by omega)) (fun t ht => Or.inl (e _ _ (by omega) (by omega))) k6
theorem ib_int {x : Int32} {n : Nat} : ib x n ↔ 0 ≤ x.toInt ∧ x.toInt < n := by
  unfold ib
  rw [i32_lt0, clamp_int]
  omega
theorem f157_eq {w : Int32} {U : sU} (hw : 1 ≤ w.toInt ∧ w.toInt ≤ 7) : f_157 w U = (-w, sI U 209 w.toNatClampNeg (U.1 209 w.toNatClampNeg + 1)) := by
  have h : ib w (ln (208 + 1)) := ib_int.mpr (by rw [l_209]; omega)
  unfold f_157 iput iget
  rw [if_pos h, if_pos h]
theorem neg_neg32 (w : Int32) : - -w = w := by
  cases w with | ofUInt32 w => simp
theorem f174_eq {w : Int32} {U : sU} (hw : 1 ≤ w.toInt ∧ w.toInt ≤ 7) : f_174 (-w) U = some (-w, sI U 281 w.toNatClampNeg (U.1 281 w.toNatClampNeg + 1)) := by
  have h : ib w 8 := ib_int.mpr (by omega)
  unfold f_174
  rw [neg_neg32, if_pos h, if_pos h]
theorem ref_step {w : Int32} {U : sU} {nT nM : Nat} (hw : 1 ≤ w.toInt ∧ w.toInt ≤ 7) (h : InvN nT nM U) : ∃ V, f_174 (-w) (f_157 w U).2 = some (-w, V) ∧ InvN nT nM V := by
  rw [f157_eq hw, f174_eq hw]
  refine ⟨_, rfl, ?_⟩
  have := InvN_ref (k := w.toNatClampNeg) (by rw [clamp_int]; omega) h
  dsimp only
  rw [sI_ne (by omega)]
  exact this
