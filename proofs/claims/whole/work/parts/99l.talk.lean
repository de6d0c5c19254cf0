/-! talk: the points one behind another -/
def zTail (c : Option (Int32 × sU)) : Option (Int32 × sU) := Option.bind c fun q14 => if q14.1 = 0 then f_14_35 FU 215 210 0 0 q14.2 else f_14_35 FU 215 210 1 0 q14.2
theorem fu0 : 0 < FU := by unfold FU; omega
theorem fu66 : 66 < FU := by unfold FU; omega
theorem points {U V0 : sU} {s L : Nat} (hE : zEnv U V0 s L) : ∀ m n (S V : sU) p n1 n2, n + m = 12 → 1 ≤ n → m + 1 < n1 → m + 1 < n2 → Jp U V0 s L S V p → Jt S V n → zEnd U V0 s L (zTail (f_20_8 n1 215 210 1 (Int32.ofNat n) S)) (f_203_77 n2 V) := by
  have e12 : (12 : Int32).toInt = 12 := rfl
  have hL := hE.2.1
  have fin : ∀ (S V : sU) p n, 1 ≤ n → Jp U V0 s L S V p → Jt S V n → zEnd U V0 s L (zTail (some (1, S))) (f_203_125 FU V) := by
    intro S V p n h0 hJ hT
    have := items hE h0 64 0 S V p FU FU (by omega) (by have := fu66; omega) (by have := fu66; omega) (by omega) hJ hT
    unfold zTail
    rw [Option.bind_some, if_neg n10]
    exact this
  intro m
  induction m with
  | zero =>
    intro n S V p n1 n2 hm h0 h1 h2 hJ hT
    obtain ⟨n1, rfl⟩ : ∃ q, n1 = q + 1 := ⟨n1 - 1, by omega⟩
    obtain ⟨n2, rfl⟩ : ∃ q, n2 = q + 1 := ⟨n2 - 1, by omega⟩
    have en : n = 12 := by omega
    subst en
    rw [f_20_8, if_neg n10, if_pos (by decide), if_pos (Or.inr rfl), f_203_77, hT.2.1, if_pos (by decide)]
    exact fin S V p 12 (by omega) hJ hT
  | succ m ih =>
    intro n S V p n1 n2 hm h0 h1 h2 hJ hT
    obtain ⟨n1, rfl⟩ : ∃ q, n1 = q + 1 := ⟨n1 - 1, by omega⟩
    obtain ⟨n2, rfl⟩ : ∃ q, n2 = q + 1 := ⟨n2 - 1, by omega⟩
    have f44 := f16_eq hE hJ (x := 44) (by decide)
    have n12 : ¬ (12 : Int32) ≤ Int32.ofNat n := by rw [i32_le, e12, ofNat_int (by omega)]; omega
    rw [f_20_8, if_neg n10, if_neg n12, f44, f_203_77, hT.2.1, if_neg n12]
    by_cases c : p < L ∧ rW U s p = 44
    case neg =>
      rw [if_neg c, if_pos rfl, if_pos (Or.inr rfl)]
      by_cases d : p < L
      · rw [if_neg (fun q => (end_m hE hJ).mp q d), letter_m hE hJ, Option.bind_some, if_pos d, if_neg (fun q => c ⟨d, q⟩)]
        exact fin S V p n h0 hJ hT
      · rw [if_pos ((end_m hE hJ).mpr d)]
        exact fin S V p n h0 hJ hT
    obtain ⟨j1, k1⟩ := Jp_next hE hJ c.1
    rw [if_pos c, if_neg n10, if_neg (fun q => (end_m hE hJ).mp q c.1), letter_m hE hJ, Option.bind_some, if_pos c.1, if_pos c.2]
    rcases point hE j1 (Jt_kp hT k1) (by omega) with ⟨S3, V3, o1, o2, o3⟩ | ⟨S3, V3, o1, o2, p3, j3, t3, l3⟩
    · rw [o1, o2, Option.bind_some, Option.bind_some]
      dsimp only
      obtain ⟨n1, rfl⟩ : ∃ q, n1 = q + 1 := ⟨n1 - 1, by omega⟩
      rw [f_20_8, if_pos rfl, if_pos (Or.inl rfl), if_pos rfl]
      unfold zTail
      rw [Option.bind_some, if_pos rfl, stop_c fu0]
      exact Or.inl ⟨S3, V3, rfl, rfl, o3⟩
    · rw [o1, o2, Option.bind_some, Option.bind_some, ofNat_succ]
      dsimp only
      rw [if_neg n10]
      exact ih (n + 1) S3 V3 p3 n1 n2 (by omega) (by omega) (by omega) (by omega) j3 t3
