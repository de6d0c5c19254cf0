/-! talk: the rules one behind another -/
def zEnd (U V0 : sU) (s L : Nat) (c m : Option (Int32 × sU)) : Prop := (∃ S V, c = some (S.1 215 3, S) ∧ m = some (0, V) ∧ Bad U V0 S V) ∨ ∃ S V p n, c = some (-1, S) ∧ m = some (1, V) ∧ Jp U V0 s L S V p ∧ Jt S V n ∧ 1 ≤ n
theorem stop_c {n : Nat} {k : Int32} {S : sU} (hn : 0 < n) : f_14_35 n 215 210 0 k S = some (S.1 215 3, S) := by
  obtain ⟨n, rfl⟩ : ∃ q, n = q + 1 := ⟨n - 1, by omega⟩
  rw [f_14_35, if_pos rfl]
theorem items {U V0 : sU} {s L n : Nat} (hE : zEnv U V0 s L) (h0 : 1 ≤ n) : ∀ m k (S V : sU) p n1 n2, L - p ≤ m → m + 1 < n1 → m < n2 → k ≤ p → Jp U V0 s L S V p → Jt S V n → zEnd U V0 s L (f_14_35 n1 215 210 1 (Int32.ofNat k) S) (f_203_125 n2 V) := by
  have e64 : (64 : Int32).toInt = 64 := rfl
  have hL := hE.2.1
  intro m
  induction m with
  | zero =>
    intro k S V p n1 n2 hm h1 h2 hk hJ hT
    obtain ⟨n1, rfl⟩ : ∃ q, n1 = q + 1 := ⟨n1 - 1, by omega⟩
    obtain ⟨n2, rfl⟩ : ∃ q, n2 = q + 1 := ⟨n2 - 1, by omega⟩
    have pl : ¬ p < L := by omega
    have c1 : S.1 215 1 ≤ S.1 215 2 := by rw [hJ.2.2.1, hJ.2.2.2.1, ofNat_le (by omega) (by have := hJ.2.2.2.2.2.2.2.2.2; omega)]; omega
    have f3 : S.1 215 3 = -1 := hJ.2.2.2.2.1
    refine Or.inr ⟨S, V, p, n, ?_, ?_, hJ, hT, h0⟩
    · rw [f_14_35, if_neg n10, if_pos c1, f3]
      by_cases c : 64 ≤ Int32.ofNat k
      · rw [if_pos c]
      · rw [if_neg c]
    · rw [f_203_125, if_pos ((end_m hE hJ).mpr pl)]
  | succ m ih =>
    intro k S V p n1 n2 hm h1 h2 hk hJ hT
    obtain ⟨n1, rfl⟩ : ∃ q, n1 = q + 1 := ⟨n1 - 1, by omega⟩
    obtain ⟨n2, rfl⟩ : ∃ q, n2 = q + 1 := ⟨n2 - 1, by omega⟩
    have pL := hJ.2.2.2.2.2.2.2.2.2
    have f3 : S.1 215 3 = -1 := hJ.2.2.2.2.1
    have c1 : S.1 215 1 ≤ S.1 215 2 ↔ ¬ p < L := by rw [hJ.2.2.1, hJ.2.2.2.1, ofNat_le (by omega) (by omega)]; omega
    by_cases pl : p < L
    case neg =>
      refine Or.inr ⟨S, V, p, n, ?_, ?_, hJ, hT, h0⟩
      · rw [f_14_35, if_neg n10, if_pos (c1.mpr pl), f3]
        by_cases c : 64 ≤ Int32.ofNat k
        · rw [if_pos c]
        · rw [if_neg c]
      · rw [f_203_125, if_pos ((end_m hE hJ).mpr pl)]
    rw [f_14_35, if_neg n10, if_neg (by rw [i32_le, e64, ofNat_int (by omega)]; omega), if_neg (fun q => c1.mp q pl), f_203_125, if_neg (fun q => (end_m hE hJ).mp q pl), ofNat_succ]
    rcases one_letter hE hJ (x := 59) (by decide) with ⟨S2, V2, o1, o2, o3⟩ | ⟨S2, V2, o1, o2, j2, k2⟩
    · injection o1 with o1
      rw [o1, o2, Option.bind_some]
      dsimp only
      rw [if_pos rfl, if_pos rfl, stop_c (by omega)]
      exact Or.inl ⟨S2, V2, rfl, rfl, o3⟩
    injection o1 with o1
    rw [o1, o2, Option.bind_some]
    dsimp only
    rw [if_neg n10, if_neg n10]
    rcases rule_out hE j2 (Jt_kp hT k2) with ⟨S3, V3, o1, o2, o3⟩ | ⟨S3, V3, o1, o2, p3, j3, t3, l3⟩
    · rw [o1, o2, Option.bind_some, Option.bind_some]
      dsimp only
      rw [if_pos rfl, if_pos rfl, stop_c (by omega)]
      exact Or.inl ⟨S3, V3, rfl, rfl, o3⟩
    · rw [o1, o2, Option.bind_some, Option.bind_some]
      dsimp only
      rw [if_neg n10, if_neg n10]
      exact ih (k + 1) S3 V3 p3 n1 n2 (by omega) (by omega) (by omega) (by omega) j3 t3
