/-! talk: a text from its first letter to its last -/
theorem cleared (S : sU) : (f_99 210 S).2 = S.2 ∧ (∀ b j, b ≠ 210 → b ≠ 212 → b ≠ 214 → (f_99 210 S).1 b j = S.1 b j) ∧ (f_99 210 S).1 210 2 = 0 ∧ (f_99 210 S).1 210 3 = 0 ∧ (f_99 210 S).1 210 4 = 0 ∧ (f_99 210 S).1 210 5 = 12 ∧ (f_99 210 S).1 210 6 = 0 ∧ (f_99 210 S).1 210 7 = 0 ∧ (f_99 210 S).1 210 8 = 0 ∧ (f_99 210 S).1 210 9 = 0 := by
  have c : ∀ (b : Nat) (Y : sU) (a j : Nat), (iclr b Y).1 a j = if a = b + 1 ∧ j < ln (b + 1) then 0 else Y.1 a j := fun b Y a j => rfl
  unfold f_99
  refine ⟨rfl, fun b j h1 h2 h3 => ?_, ?_, ?_, ?_, ?_, ?_, ?_, ?_, ?_⟩
  · simp (disch := omega) only [sI_ne, sI_nj, sI_at]
    rw [c, if_neg (by omega), c, if_neg (by omega)]
  all_goals simp (disch := omega) only [sI_ne, sI_nj, sI_at]
def zM (V : sU) : sU := sI (sI (sI (sI (sI (sI (sI (sI V 280 31 0) 280 32 0) 280 33 0) 280 34 12) 280 35 0) 280 36 0) 280 37 0) 280 38 0
theorem zM_fr (V : sU) : (zM V).2 = V.2 ∧ (∀ b j, ¬ (b = 280 ∧ 31 ≤ j ∧ j ≤ 38) → (zM V).1 b j = V.1 b j) ∧ (zM V).1 280 31 = 0 ∧ (zM V).1 280 32 = 0 ∧ (zM V).1 280 33 = 0 ∧ (zM V).1 280 34 = 12 ∧ (zM V).1 280 35 = 0 ∧ (zM V).1 280 36 = 0 ∧ (zM V).1 280 37 = 0 ∧ (zM V).1 280 38 = 0 := by
  unfold zM
  refine ⟨rfl, fun b j h => ?_, ?_, ?_, ?_, ?_, ?_, ?_, ?_, ?_⟩
  · by_cases e : b = 280
    · subst e
      simp (disch := omega) only [sI_ne, sI_nj, sI_at]
    · simp (disch := omega) only [sI_ne, sI_nj, sI_at]
  all_goals simp (disch := omega) only [sI_ne, sI_nj, sI_at]
theorem so_step {S T : sU} {n k : Nat} {x q : Int32} (hk : k < 3) (hx : Int32.ofNat ((sm_tx (1000 - 1000)).getD k 0) = x) (h : f_18 215 x S = (q, T)) : f_19_2 (n + 1) 215 1000 (Int32.ofNat k) S = if q = 0 then some (0, T) else f_19_2 n 215 1000 (Int32.ofNat (k + 1)) T := by
  have l : (sm_tx (1000 - 1000)).length = 3 := rfl
  rw [f_19_2, l, if_neg (fun q => by have := (ofNat_le (by omega) (by omega)).mp q; omega), if_pos (ib_ofNat (by omega) hk), ofNat_clamp (by omega), hx, ofNat_succ, h]
theorem so_fu : ∃ n, FU = n + 4 := ⟨FU - 4, by unfold FU; omega⟩
theorem so_0 {S S1 : sU} (h : f_18 215 115 S = (0, S1)) : f_19 215 1000 S = some (0, S1) := by
  obtain ⟨n, hn⟩ := so_fu
  unfold f_19
  rw [hn]
  exact (so_step (n := n + 3) (k := 0) (by omega) rfl h).trans (if_pos rfl)
theorem so_1 {S S1 S2 : sU} (h : f_18 215 115 S = (1, S1)) (h2 : f_18 215 111 S1 = (0, S2)) : f_19 215 1000 S = some (0, S2) := by
  obtain ⟨n, hn⟩ := so_fu
  unfold f_19
  rw [hn]
  exact (so_step (n := n + 3) (k := 0) (by omega) rfl h).trans ((if_neg n10).trans ((so_step (n := n + 2) (k := 1) (by omega) rfl h2).trans (if_pos rfl)))
theorem so_2 {S S1 S2 S3 : sU} (h : f_18 215 115 S = (1, S1)) (h2 : f_18 215 111 S1 = (1, S2)) (h3 : f_18 215 32 S2 = (0, S3)) : f_19 215 1000 S = some (0, S3) := by
  obtain ⟨n, hn⟩ := so_fu
  unfold f_19
  rw [hn]
  exact (so_step (n := n + 3) (k := 0) (by omega) rfl h).trans ((if_neg n10).trans ((so_step (n := n + 2) (k := 1) (by omega) rfl h2).trans ((if_neg n10).trans ((so_step (n := n + 1) (k := 2) (by omega) rfl h3).trans (if_pos rfl)))))
theorem so_3 {S S1 S2 S3 : sU} (h : f_18 215 115 S = (1, S1)) (h2 : f_18 215 111 S1 = (1, S2)) (h3 : f_18 215 32 S2 = (1, S3)) : f_19 215 1000 S = some (1, S3) := by
  obtain ⟨n, hn⟩ := so_fu
  have l : (sm_tx (1000 - 1000)).length = 3 := rfl
  have e : f_19_2 (n + 1) 215 1000 (Int32.ofNat 3) S3 = some (1, S3) := by
    rw [f_19_2, l, if_pos ((ofNat_le (by omega) (by omega)).mpr (by omega))]
  unfold f_19
  rw [hn]
  exact (so_step (n := n + 3) (k := 0) (by omega) rfl h).trans ((if_neg n10).trans ((so_step (n := n + 2) (k := 1) (by omega) rfl h2).trans ((if_neg n10).trans ((so_step (n := n + 1) (k := 2) (by omega) rfl h3).trans ((if_neg n10).trans e)))))
theorem f208_0 {n : Nat} {k : Int32} {S : sU} (hn : 0 < n) : f_20_8 n 215 210 0 k S = some (0, S) := by
  obtain ⟨n, rfl⟩ : ∃ q, n = q + 1 := ⟨n - 1, by omega⟩
  rw [f_20_8, if_pos rfl, if_pos (Or.inl rfl)]
