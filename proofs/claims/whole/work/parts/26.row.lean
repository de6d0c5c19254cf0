/-! row -/
theorem jset_1 {a k : Nat} {f : Nat → Int64} {U : sU} : (jset a f k U).1 = U.1 := rfl
theorem jset_at {a k j : Nat} {f : Nat → Int64} {U : sU} (h : j < k) : (jset a f k U).2.1 a j = f j := if_pos ⟨rfl, h⟩
theorem jset_ne {a b k j : Nat} {f : Nat → Int64} {U : sU} (h : b ≠ a) : (jset a f k U).2.1 b j = U.2.1 b j := if_neg fun q => h q.1
def clr286 (s : Nat) (k : Nat) (U : sU) : sU := (U.1, fun b j => if b = 286 ∧ 64 * s ≤ j ∧ j < 64 * s + k then 0 else U.2.1 b j, U.2.2)
theorem clr286_1 {s k : Nat} {U : sU} : (clr286 s k U).1 = U.1 := rfl
theorem clr286_at {s k j : Nat} {U : sU} (h : 64 * s ≤ j) (h2 : j < 64 * s + k) : (clr286 s k U).2.1 286 j = 0 := if_pos ⟨rfl, h, h2⟩
theorem clr286_o {s k j : Nat} {U : sU} (h : j < 64 * s ∨ 64 * s + k ≤ j) : (clr286 s k U).2.1 286 j = U.2.1 286 j := if_neg (by omega)
theorem clr286_ne {s k b j : Nat} {U : sU} (h : b ≠ 286) : (clr286 s k U).2.1 b j = U.2.1 b j := if_neg fun q => h q.1
theorem clr286_0 (s : Nat) (U : sU) : clr286 s 0 U = U := by
  unfold clr286
  have : (fun b j => if b = 286 ∧ 64 * s ≤ j ∧ j < 64 * s + 0 then 0 else U.2.1 b j) = U.2.1 := by
    funext b j
    rw [if_neg (by omega)]
  rw [this]
theorem clr286_s (s k : Nat) (U : sU) : sJ (clr286 s k U) 286 (64 * s + k) 0 = clr286 s (k + 1) U := by
  unfold clr286 sJ
  dsimp only
  congr 2
  funext b j
  (repeat' split) <;> first | rfl | omega
theorem rowloop {s : Int32} (hs : s.toNatClampNeg < 8) (he : s.toInt = s.toNatClampNeg) (U : sU) : ∀ m k n, k + m = 64 → m < n → f_181_78 n s (Int32.ofNat k) (clr286 s.toNatClampNeg k U) = some (1, clr286 s.toNatClampNeg 64 U) := by
  have e64 : (64 : Int32).toInt = 64 := rfl
  intro m
  induction m with
  | zero =>
    intro k n hk hn
    obtain ⟨n, rfl⟩ : ∃ q, n = q + 1 := ⟨n - 1, by omega⟩
    have : k = 64 := by omega
    subst this
    rw [f_181_78, if_pos (by rw [i32_le, e64, ofNat_int (by omega)]; omega)]
  | succ m ih =>
    intro k n hk hn
    obtain ⟨n, rfl⟩ : ∃ q, n = q + 1 := ⟨n - 1, by omega⟩
    have hm := mul64 (i := Int32.ofNat k) he (ofNat_int (by omega)) hs (by omega)
    rw [f_181_78, if_neg (by rw [i32_le, e64, ofNat_int (by omega)]; omega), if_pos (ib_int.mpr (by omega)), ofNat_succ]
    have hc : (64 * s + Int32.ofNat k).toNatClampNeg = 64 * s.toNatClampNeg + k := by rw [clamp_int, hm]; omega
    rw [hc, clr286_s]
    exact ih (k + 1) n (by omega) (by omega)
theorem ln_sh : ∀ s, s < 8 → ln (265 + 2 * s) = 64 := by decide +kernel
theorem st_row {U : sU} (h : Inv U) (s o n : Int32) : Two (some (f_113 s o n U)) (f_181 s o n) := by
  by_cases hs : s < 0 ∨ 8 ≤ s
  · exact ref_to h (w := 1) (by decide) (by unfold f_113; rw [sat_no hs]) (by unfold f_181; rw [if_pos (f177_no hs)])
  obtain ⟨e1, e2, e3, e4⟩ := sat_yes hs
  by_cases hn : 0 ≤ n
  case neg => exact ref_to h (w := 4) (by decide) (by unfold f_113; rw [e1]; dsimp only; rw [if_neg hn]) (by unfold f_181; rw [if_neg (f177_yes hs), if_neg hn])
  by_cases ho : o < 0
  case pos => exact ref_to h (w := 6) (by decide) (by unfold f_113; rw [e1]; dsimp only; rw [if_pos hn, if_pos ho]) (by unfold f_181; rw [if_neg (f177_yes hs), if_pos hn, if_pos ho])
  by_cases ho3 : o ≤ 3
  case neg => exact ref_to h (w := 6) (by decide) (by unfold f_113; rw [e1]; dsimp only; rw [if_pos hn, if_neg ho, if_neg ho3]) (by unfold f_181; rw [if_neg (f177_yes hs), if_pos hn, if_neg ho, if_neg ho3])
  by_cases hn6 : n ≤ 64
  case neg => exact ref_to h (w := 7) (by decide) (by unfold f_113; rw [e1]; dsimp only; rw [if_pos hn, if_neg ho, if_pos ho3, if_neg hn6]) (by unfold f_181; rw [if_neg (f177_yes hs), if_pos hn, if_neg ho, if_pos ho3, if_neg hn6])
  obtain ⟨nT, nM, h⟩ := h
  have loop := fun U => rowloop e2 e4 U 64 0 FU (by omega) (by unfold FU; omega)
  refine ⟨1, jlay (264 + 2 * s.toNatClampNeg) o n U, clr286 s.toNatClampNeg 64 (sI (sI (sI (jlay (264 + 2 * s.toNatClampNeg) o n U) 282 s.toNatClampNeg 1) 283 s.toNatClampNeg o) 284 s.toNatClampNeg n), ?_, ?_, nT, nM, ?_⟩
  · unfold f_113
    rw [e1]
    dsimp only
    rw [if_pos hn, if_neg ho, if_pos ho3, if_pos hn6]
  · unfold f_181
    rw [if_neg (f177_yes hs), if_pos hn, if_neg ho, if_pos ho3, if_pos hn6, if_pos e3, if_pos e3, if_pos e3]
    have := loop (sI (sI (sI (jlay (264 + 2 * s.toNatClampNeg) o n U) 282 s.toNatClampNeg 1) 283 s.toNatClampNeg o) 284 s.toNatClampNeg n)
    rw [clr286_0] at this
    exact this
  · generalize s.toNatClampNeg = k at *
    have e64 : (64 : Int32).toInt = 64 := rfl
    have e0 : (0 : Int32).toInt = 0 := rfl
    have e33 : (3 : Int32).toInt = 3 := rfl
    rw [i32_le] at hn ho3 hn6
    rw [i32_lt0] at ho
    have hl : (if Int32.ofNat (ln (264 + 2 * k + 1)) ≤ n then Int32.ofNat (ln (264 + 2 * k + 1)) else n) = n := by
      have : 264 + 2 * k + 1 = 265 + 2 * k := by omega
      rw [this, ln_sh k e2]
      split
      · rename_i q
        rw [i32_le] at q
        have e6 : (Int32.ofNat 64).toInt = 64 := rfl
        exact Int32.toInt_inj.mp (by omega)
      · rfl
    unfold jlay
    rw [hl, show 264 + 2 * k + 1 = 265 + 2 * k by omega, ln_sh k e2]
    refine InvN_sh e2 h ?_ ?_ ?_
    · intro a j h1 h2
      simp (disch := omega) only [clr286_1, jset_1, f_83, sI_ne]
      by_cases h3 : 282 ≤ a ∧ a < 286
      · have hj : j ≠ k := fun q => h2 ⟨h3.1, h3.2, q⟩
        rcases (by omega : a = 282 ∨ a = 283 ∨ a = 284 ∨ a = 285) with rfl | rfl | rfl | rfl <;> simp (disch := omega) only [sI_ne, sI_nj, jset_1]
      · simp (disch := omega) only [sI_ne, jset_1]
    · intro t ht hts i hi
      simp (disch := omega) only [clr286_o, clr286_ne, jset_ne, sI_2, f_83, true_and]
    · refine Or.inr (Or.inl ⟨?_, ?_, o.toNatClampNeg, n.toNatClampNeg, ?_, ?_, ?_, ?_, ?_, ?_, ?_⟩)
      · simp (disch := omega) only [clr286_1, jset_1, f_83, sI_ne, sI_nj, sI_at]
      · simp (disch := omega) only [clr286_1, jset_1, f_83, sI_ne, sI_nj, sI_at]
      · rw [clamp_int]; omega
      · rw [clamp_int]; omega
      · rw [← i32_nat (by omega)]
        simp (disch := omega) only [clr286_1, jset_1, f_83, sI_ne, sI_nj, sI_at]
      · rw [← i32_nat (by omega)]
        simp (disch := omega) only [clr286_1, jset_1, f_83, sI_ne, sI_nj, sI_at]
      · rw [← i32_nat (by omega)]
        simp (disch := omega) only [clr286_1, jset_1, f_83, sI_ne, sI_nj, sI_at]
      · rw [← i32_nat (by omega)]
        simp (disch := omega) only [clr286_1, jset_1, f_83, sI_ne, sI_nj, sI_at]
      · intro i hi
        simp (disch := omega) only [clr286_at, clr286_ne, jset_at, sI_2]
