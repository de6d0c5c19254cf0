/-! talk: a number within its bounds, on both sides -/
theorem Jp_num {U V0 S V : sU} {s L p : Nat} (h : Jp U V0 s L S V p) (v w : Int32) : Jp U V0 s L (sI S 215 4 v) (sI V 280 28 w) p ∧ Kp S V (sI S 215 4 v) (sI V 280 28 w) := by
  obtain ⟨⟨c1, c2⟩, ⟨m1, m2⟩, h1, h2, h3, h4, h5, h6, h7, h8⟩ := h
  have fr : ∀ b j, ¬ (b = 280 ∧ 26 ≤ j ∧ j ≤ 30) → (sI V 280 28 w).1 b j = V.1 b j := by
    intro b j q
    by_cases e : b = 280
    · subst e; exact sI_nj (by omega)
    · exact sI_ne e
  exact ⟨⟨⟨c1, fun b j q => by rw [sI_ne (by omega)]; exact c2 b j q⟩, ⟨m1, fun b j q r t => by rw [fr b j (by omega)]; exact m2 b j q r t⟩, by rw [sI_nj (by omega)]; exact h1, by rw [sI_nj (by omega)]; exact h2, by rw [sI_nj (by omega)]; exact h3, fun j hj => by rw [sI_ne (by omega)]; exact h4 j hj, by rw [sI_nj (by omega)]; exact h5, by rw [sI_nj (by omega)]; exact h6, by rw [sI_nj (by omega)]; exact h7, h8⟩, rfl, fun b j q => sI_ne q, rfl, fr⟩
theorem Jp_st {U V0 S V : sU} {s L p : Nat} (h : Jp U V0 s L S V p) (w : Int32) : Jp U V0 s L S (sI V 280 29 w) p ∧ Kp S V S (sI V 280 29 w) := by
  obtain ⟨c, ⟨m1, m2⟩, h1, h2, h3, h4, h5, h6, h7, h8⟩ := h
  have fr : ∀ b j, ¬ (b = 280 ∧ 26 ≤ j ∧ j ≤ 30) → (sI V 280 29 w).1 b j = V.1 b j := by
    intro b j q
    by_cases e : b = 280
    · subst e; exact sI_nj (by omega)
    · exact sI_ne e
  exact ⟨⟨c, ⟨m1, fun b j q r t => by rw [fr b j (by omega)]; exact m2 b j q r t⟩, h1, h2, h3, h4, by rw [sI_nj (by omega)]; exact h5, by rw [sI_nj (by omega)]; exact h6, by rw [sI_nj (by omega)]; exact h7, h8⟩, rfl, fun _ _ _ => rfl, rfl, fr⟩
theorem digs {U V0 : sU} {s L : Nat} (hE : zEnv U V0 s L) : ∀ r c (S V : sU) p m n1 n2, c + r = 3 → r < n1 → r < n2 → Jp U V0 s L S V p → S.1 215 4 = Int32.ofNat m → V.1 280 28 = Int32.ofNat m → m < 10 ^ c → ∃ (S' V' : sU) (p' m' : Nat), (∀ lo hi st, f_28_13 n1 215 lo hi st (Int32.ofNat c) S = f_28_80 215 lo hi st S') ∧ f_193_32 n2 (Int32.ofNat c) V = some (1, V') ∧ Jp U V0 s L S' V' p' ∧ Kp S V S' V' ∧ S'.1 215 4 = Int32.ofNat m' ∧ V'.1 280 28 = Int32.ofNat m' ∧ m' < 1000 ∧ p ≤ p' ∧ (zdg U s L p → 1 ≤ r → p < p') ∧ V'.1 280 29 = V.1 280 29 := by
  have e3 : (3 : Int32).toInt = 3 := rfl
  have e10 : (10 : Int32).toInt = 10 := rfl
  have e48 : (48 : Int32).toInt = 48 := rfl
  intro r
  induction r with
  | zero =>
    intro c S V p m n1 n2 hc h1 h2 hJ hm hn hlt
    obtain ⟨n1, rfl⟩ : ∃ q, n1 = q + 1 := ⟨n1 - 1, by omega⟩
    obtain ⟨n2, rfl⟩ : ∃ q, n2 = q + 1 := ⟨n2 - 1, by omega⟩
    have ec : c = 3 := by omega
    subst ec
    refine ⟨S, V, p, m, fun lo hi st => ?_, ?_, hJ, Kp.rf S V, hm, hn, hlt, Nat.le_refl _, fun _ q => by omega, rfl⟩
    · rw [f_28_13, if_pos (by decide)]
    · rw [f_193_32, if_pos (by decide)]
  | succ r ih =>
    intro c S V p m n1 n2 hc h1 h2 hJ hm hn hlt
    obtain ⟨n1, rfl⟩ : ∃ q, n1 = q + 1 := ⟨n1 - 1, by omega⟩
    obtain ⟨n2, rfl⟩ : ∃ q, n2 = q + 1 := ⟨n2 - 1, by omega⟩
    have c3 : ¬ (3 : Int32) ≤ Int32.ofNat c := by rw [i32_le, e3, ofNat_int (by omega)]; omega
    have dc := dig_c hE hJ
    by_cases d : zdg U s L p
    · haveI : Decidable (zdg U s L p) := Decidable.isTrue d
      have dm := dig_m hE hJ
      rw [if_pos d] at dm
      obtain ⟨d1, d2⟩ := dc.mp d
      have dd := d
      obtain ⟨pL, x1, x2⟩ := dd
      have lt : iget 216 (S.1 215 2) S = rW U s p := by rw [letter_c hE hJ]; unfold zT; rw [if_pos pL]
      have lm := letter_m hE hJ
      rw [if_pos pL] at lm
      obtain ⟨x, hx, hx9⟩ : ∃ x : Nat, (rW U s p).toInt = 48 + x ∧ x ≤ 9 := ⟨((rW U s p).toInt - 48).toNat, by omega, by omega⟩
      have m1000 : m < 100 := Nat.lt_of_lt_of_le hlt (Nat.pow_le_pow_right (n := 10) (by omega) (show c ≤ 2 by omega))
      have mi : (Int32.ofNat m).toInt = m := ofNat_int (by omega)
      have tm : ((10 : Int32) * Int32.ofNat m).toInt = 10 * m := by rw [m32 (by rw [mi, e10]; omega) (by rw [mi, e10]; omega), mi, e10]
      have vc : (10 : Int32) * Int32.ofNat m + (rW U s p - 48) = Int32.ofNat (10 * m + x) := by
        apply Int32.toInt_inj.mp
        have s48 := sub48 ⟨x1, x2⟩
        rw [a32 (by rw [tm, s48]; omega) (by rw [tm, s48]; omega), tm, s48, ofNat_int (by omega)]
        omega
      have vm : (10 : Int32) * Int32.ofNat m + rW U s p - 48 = Int32.ofNat (10 * m + x) := by
        apply Int32.toInt_inj.mp
        have a : ((10 : Int32) * Int32.ofNat m + rW U s p).toInt = 10 * m + (48 + x) := by rw [a32 (by rw [tm, hx]; omega) (by rw [tm, hx]; omega), tm, hx]
        rw [s32 (by rw [a, e48]; omega) (by rw [a, e48]; omega), a, e48, ofNat_int (by omega)]
        omega
      obtain ⟨j1, k1⟩ := Jp_num hJ (Int32.ofNat (10 * m + x)) (Int32.ofNat (10 * m + x))
      obtain ⟨j2, k2⟩ := Jp_next hE j1 pL
      have p10 : 10 * m + x < 10 ^ (c + 1) := by rw [Nat.pow_succ]; omega
      obtain ⟨S', V', p', m', g1, g2, g3, g4, g5, g6, g7, g8, g9, g10⟩ := ih (c + 1) _ _ (p + 1) (10 * m + x) n1 n2 (by omega) (by omega) (by omega) j2 (by rw [sI_nj (by omega), sI_at]) (by rw [sI_nj (by omega), sI_at]) p10
      refine ⟨S', V', p', m', fun lo hi st => ?_, ?_, g3, (k1.tr k2).tr g4, g5, g6, g7, by omega, fun _ _ => by omega, ?_⟩
      · rw [f_28_13, if_neg c3, if_neg d1, if_pos d2, lt, hm, vc, ofNat_succ]
        exact g1 lo hi st
      · rw [f_193_32, if_neg c3, dm, Option.bind_some, if_neg (by decide), lm, Option.bind_some, hn, vm, ofNat_succ]
        exact g2
      · rw [g10, sI_nj (by omega), sI_nj (by omega)]
    · haveI : Decidable (zdg U s L p) := Decidable.isFalse d
      have dm := dig_m hE hJ
      rw [if_neg d] at dm
      have m1000 : m < 1000 := Nat.lt_of_lt_of_le hlt (Nat.pow_le_pow_right (n := 10) (by omega) (show c ≤ 3 by omega))
      refine ⟨S, V, p, m, fun lo hi st => ?_, ?_, hJ, Kp.rf S V, hm, hn, m1000, Nat.le_refl _, fun q => absurd q d, rfl⟩
      · rw [f_28_13, if_neg c3]
        by_cases d1 : iget 216 (S.1 215 2) S - 48 < 0
        · rw [if_pos d1]
        · rw [if_neg d1, if_neg (fun q => d (dc.mpr ⟨d1, q⟩))]
      · rw [f_193_32, if_neg c3, dm, Option.bind_some, if_pos rfl]
