/-! ends -/
theorem ends_c {U : sU} {t N : Nat} {a b : Int32} (hN : U.1 (5 + 5 * t) 2 = Int32.ofNat N) (h12 : N ≤ 12) (ht : t < 8) : ∀ m k n (s : Int64), k + m = N → m < n → f_107_5 n (5 + 5 * t) a b s (Int32.ofNat k) U = some ((List.range m).foldl (fun s i => s + (U.1 (9 + 5 * t) (k + i)).toInt64 * f_105 (5 + 5 * t) ((((if a ≤ U.1 (7 + 5 * t) (k + i) + U.1 (5 + 5 * t) 3 then (if U.1 (7 + 5 * t) (k + i) + U.1 (5 + 5 * t) 3 ≤ b then U.1 (7 + 5 * t) (k + i) + U.1 (5 + 5 * t) 3 else b) else a) - U.1 (7 + 5 * t) (k + i)) - U.1 (5 + 5 * t) 4).toInt64) U) s) := by
  obtain ⟨l1, l2⟩ := ln_tk t ht
  intro m
  induction m with
  | zero =>
    intro k n s hk hn
    obtain ⟨n, rfl⟩ : ∃ q, n = q + 1 := ⟨n - 1, by omega⟩
    rw [f_107_5, hN, if_pos ((ofNat_le (by omega) (by omega)).mpr (by omega))]
    rfl
  | succ m ih =>
    intro k n s hk hn
    obtain ⟨n, rfl⟩ : ∃ q, n = q + 1 := ⟨n - 1, by omega⟩
    have g1 : iget (5 + 5 * t + 1) (Int32.ofNat k) U = U.1 (7 + 5 * t) k := by
      unfold iget
      rw [if_pos (ib_ofNat (ln_lt _) (by omega)), ofNat_clamp (by omega), show 5 + 5 * t + 1 + 1 = 7 + 5 * t by omega]
    have g3 : iget (5 + 5 * t + 3) (Int32.ofNat k) U = U.1 (9 + 5 * t) k := by
      unfold iget
      rw [if_pos (ib_ofNat (ln_lt _) (by omega)), ofNat_clamp (by omega), show 5 + 5 * t + 3 + 1 = 9 + 5 * t by omega]
    rw [f_107_5, hN, if_neg (fun q => by have := (ofNat_le (by omega) (by omega)).mp q; omega), g1, g3, within_eq, ofNat_succ, ih (k + 1) n _ (by omega) (by omega)]
    rw [List.range_succ_eq_map, List.foldl_cons, List.foldl_map]
    congr 1
    congr 1
    funext s i
    rw [show k + 1 + i = k + i.succ by omega]
