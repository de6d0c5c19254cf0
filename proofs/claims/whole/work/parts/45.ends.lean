/-! ends: the reference's side, and both -/
theorem ends_m {U M : sU} {t N : Nat} {x a b : Int32} (hx : x.toInt = t) (ht : t < 8) (hN : M.1 288 t = Int32.ofNat N) (h12 : N ≤ 12) (hw : M.1 289 t = U.1 (5 + 5 * t) 3) (hl : M.1 290 t = U.1 (5 + 5 * t) 4) (ho : M.1 292 t = U.1 (5 + 5 * t) 6) (hX : ∀ i, i < N → M.1 296 (12 * t + i) = U.1 (7 + 5 * t) i ∧ M.1 297 (12 * t + i) = U.1 (9 + 5 * t) i) : ∀ m k n (s : Int64), k + m = N → m < n → f_259_6 n x a b s (Int32.ofNat k) M = some ((List.range m).foldl (fun s i => s + (U.1 (9 + 5 * t) (k + i)).toInt64 * f_105 (5 + 5 * t) ((((if a ≤ U.1 (7 + 5 * t) (k + i) + U.1 (5 + 5 * t) 3 then (if U.1 (7 + 5 * t) (k + i) + U.1 (5 + 5 * t) 3 ≤ b then U.1 (7 + 5 * t) (k + i) + U.1 (5 + 5 * t) 3 else b) else a) - U.1 (7 + 5 * t) (k + i)) - U.1 (5 + 5 * t) 4).toInt64) U) s) := by
  have ex : x.toNatClampNeg = t := by rw [clamp_int]; omega
  have i8 : ib x 8 := ib_int.mpr (by omega)
  intro m
  induction m with
  | zero =>
    intro k n s hk hn
    obtain ⟨n, rfl⟩ : ∃ q, n = q + 1 := ⟨n - 1, by omega⟩
    rw [f_259_6]
    simp only [ex, hN, if_pos i8]
    rw [if_pos ((ofNat_le (by omega) (by omega)).mpr (by omega))]
    rfl
  | succ m ih =>
    intro k n s hk hn
    obtain ⟨n, rfl⟩ : ∃ q, n = q + 1 := ⟨n - 1, by omega⟩
    obtain ⟨x1, x2⟩ := hX k (by omega)
    obtain ⟨m1, m2⟩ := mul12 (s := x) (i := Int32.ofNat k) hx (ofNat_int (by omega)) (by omega) (by omega)
    have i96 : ib (12 * x + Int32.ofNat k) 96 := ib_int.mpr (by omega)
    have ih := ih (k + 1) n (s + (U.1 (9 + 5 * t) k).toInt64 * f_105 (5 + 5 * t) ((((if a ≤ U.1 (7 + 5 * t) k + U.1 (5 + 5 * t) 3 then (if U.1 (7 + 5 * t) k + U.1 (5 + 5 * t) 3 ≤ b then U.1 (7 + 5 * t) k + U.1 (5 + 5 * t) 3 else b) else a) - U.1 (7 + 5 * t) k) - U.1 (5 + 5 * t) 4).toInt64) U) (by omega) (by omega)
    have tail : ∀ z, f_259_74 (fun v1 v2 v3 v4 v6 U => f_259_6 n v1 v2 v3 v4 v6 U) x a b s (Int32.ofNat k) (U.1 (7 + 5 * t) k) z M = f_259_6 n x a b (s + (U.1 (9 + 5 * t) k).toInt64 * f_105 (5 + 5 * t) (((z - U.1 (7 + 5 * t) k) - U.1 (5 + 5 * t) 4).toInt64) U) (Int32.ofNat (k + 1)) M := by
      intro z
      unfold f_259_74
      rw [if_pos i96, if_pos i8, loses_eq i8 ex ho, Option.bind_some, m2, ex, x2, hl, ofNat_succ]
    have goal : f_259_6 (n + 1) x a b s (Int32.ofNat k) M = f_259_6 n x a b (s + (U.1 (9 + 5 * t) k).toInt64 * f_105 (5 + 5 * t) ((((if a ≤ U.1 (7 + 5 * t) k + U.1 (5 + 5 * t) 3 then (if U.1 (7 + 5 * t) k + U.1 (5 + 5 * t) 3 ≤ b then U.1 (7 + 5 * t) k + U.1 (5 + 5 * t) 3 else b) else a) - U.1 (7 + 5 * t) k) - U.1 (5 + 5 * t) 4).toInt64) U) (Int32.ofNat (k + 1)) M := by
      rw [f_259_6]
      simp only [ex, hN, m2, x1, hw, if_pos i8, if_pos i96, tail]
      rw [if_neg (fun q => by have := (ofNat_le (by omega) (by omega)).mp q; omega)]
      by_cases c1 : a ≤ U.1 (7 + 5 * t) k + U.1 (5 + 5 * t) 3
      · rw [if_pos c1, if_pos c1]
        by_cases c2 : U.1 (7 + 5 * t) k + U.1 (5 + 5 * t) 3 ≤ b
        · rw [if_pos c2, if_pos c2]
        · rw [if_neg c2, if_neg c2]
      · rw [if_neg c1, if_neg c1]
    rw [goal, ih, List.range_succ_eq_map, List.foldl_cons, List.foldl_map]
    congr 1
    congr 1
    funext s i
    rw [show k + 1 + i = k + i.succ by omega]
/-- what is lost within two ends, the same on both sides -/
theorem ends_eq {U : sU} {nT nM : Nat} (h : InvN nT nM U) {x a b : Int32} (hk : 0 ≤ x.toInt ∧ x.toInt < nT) : ∃ r, f_107 (5 + 5 * x.toNatClampNeg) a b U = some r ∧ f_259 x a b U = some r := by
  obtain ⟨e1, e2, e3, e4, n8⟩ := tat_yes h hk
  obtain ⟨n, _, n12, q0, q0', q1, q2, _, q4, _, _, _, qx, _⟩ := tk_facts h e2
  exact ⟨_, ends_c q0 n12 (by omega) n 0 FU 0 (by omega) (by unfold FU; omega), ends_m e4 (by omega) q0' n12 q1.1 q2.1 q4.1 (fun i hi => ⟨(qx i hi).1, (qx i hi).2.2.2.1⟩) n 0 FU 0 (by omega) (by unfold FU; omega)⟩
