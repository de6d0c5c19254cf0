/-! meaning: the flaws -/
theorem allows_all {n : Nat} (h1 : 1 ≤ n) (h2 : n ≤ 12) : ∀ t, t < n → zW (2 ^ (n - 1) - 1) t = t := by
  intro t
  induction t with
  | zero => intro _; rfl
  | succ t ih =>
    intro ht
    show zW _ t + (if Nat.testBit (2 ^ (n - 1) - 1) t then 1 else 0) = _
    rw [ih (by omega), Nat.testBit_two_pow_sub_one, decide_eq_true (by omega : t < n - 1)]
    rfl
theorem pc_all {n : Nat} (h1 : 1 ≤ n) (h2 : n ≤ 12) : zpc (2 ^ (n - 1) - 1) = n - 1 := by
  have p := Nat.two_pow_pos (n - 1)
  rw [zpc_W (k := n - 1) (by omega) (by omega), allows_all h1 h2 (n - 1) (by omega)]
/-- the words of a row's first elements -/
def rW (U : sU) (s i : Nat) : Int32 := (U.2.1 (265 + 2 * s) i).toInt32
def rbad (U : sU) (s T n : Nat) : Prop := ∃ i, i < n ∧ ¬ (0 ≤ (rW U s i).toInt ∧ (rW U s i).toInt < (U.1 T 5).toInt)
theorem f88_eq {U : sU} {s i m : Nat} (hs : s < 8) (h3 : U.1 (264 + 2 * s) 3 = Int32.ofNat m) (hm : m ≤ 64) (hi : i < m) : f_88 (264 + 2 * s) (Int32.ofNat i) U = rW U s i := by
  have l := ln_sh s hs
  have k := f85_iff (a := 264 + 2 * s) (x := Int32.ofNat i) (U := U)
  rw [h3, ofNat_int (by omega), ofNat_int (by omega), show 264 + 2 * s + 1 = 265 + 2 * s by omega, l] at k
  unfold f_88 jget rW
  rw [if_neg (fun q => k.mp q (by omega)), ofNat_clamp (by omega), show 264 + 2 * s + 1 = 265 + 2 * s by omega]
theorem words_c {U : sU} {s T n m : Nat} (hs : s < 8) (h3 : U.1 (264 + 2 * s) 3 = Int32.ofNat m) (hm : m ≤ 64) (hT : Tk U T n) (hn : n ≤ m) : (¬ rbad U s T n ∧ f_162_41 FU T (some (264 + 2 * s)) 0 U = some 0) ∨ (rbad U s T n ∧ f_162_41 FU T (some (264 + 2 * s)) 0 U = some 6) := by
  have n12 := hT.2.2.1
  refine loop_ex (fun q (c : Int32) => f_162_41 q T (some (264 + 2 * s)) c U) (fun k c => c = Int32.ofNat k ∧ ∀ i, i < k → 0 ≤ (rW U s i).toInt ∧ (rW U s i).toInt < (U.1 T 5).toInt) (fun o => (¬ rbad U s T n ∧ o = some 0) ∨ (rbad U s T n ∧ o = some 6)) n ?_ ?_ n 0 FU 0 (by omega) (by unfold FU; omega) ⟨rfl, fun i hi => by omega⟩
  · rintro k c q hk ⟨rfl, hno⟩
    rw [f_162_41, hT.1, if_neg (fun q => by have := (ofNat_le (by omega) (by omega)).mp q; omega)]
    rw [f88_eq hs h3 hm (by omega), ofNat_succ]
    by_cases c1 : rW U s k < 0
    · rw [if_pos c1]
      rw [i32_lt0] at c1
      exact Or.inl (Or.inr ⟨⟨k, hk, by omega⟩, rfl⟩)
    · rw [if_neg c1]
      rw [i32_lt0] at c1
      by_cases c2 : rW U s k < U.1 T 5
      · rw [if_pos c2]
        rw [i32_lt] at c2
        refine Or.inr ⟨_, ⟨rfl, fun i hi => ?_⟩, rfl⟩
        by_cases e : i = k
        · subst e; exact ⟨by omega, c2⟩
        · exact hno i (by omega)
      · rw [if_neg c2]
        rw [i32_lt] at c2
        exact Or.inl (Or.inr ⟨⟨k, hk, by omega⟩, rfl⟩)
  · rintro c q ⟨rfl, hno⟩
    rw [f_162_41, hT.1, if_pos ((ofNat_le (by omega) (by omega)).mpr (Nat.le_refl _))]
    exact Or.inl ⟨fun ⟨i, hi, hb⟩ => hb (hno i hi), rfl⟩
theorem words_m {U V : sU} {s t n : Nat} {x k y more : Int32} (hy : y.toInt = s) (hs : s < 8) (hx : x.toInt = t) (ht : t < 8) (hn : n ≤ 12) (e286 : ∀ i, i < 64 → V.2.1 286 (64 * s + i) = U.2.1 (265 + 2 * s) i) (e291 : V.1 291 t = U.1 (5 + 5 * t) 5) : (¬ rbad U s (5 + 5 * t) n ∧ f_215_139 FU x k y more 1 (Int32.ofNat n) 0 V = f_215_190 x k y more 1 (Int32.ofNat n) V) ∨ (rbad U s (5 + 5 * t) n ∧ f_215_139 FU x k y more 1 (Int32.ofNat n) 0 V = (f_174 (-6) V).bind fun q => some (q.1, q.2)) := by
  have ex : x.toNatClampNeg = t := by rw [clamp_int]; omega
  have i8 : ib x 8 := ib_int.mpr (by omega)
  refine loop_ex (fun q (c : Int32) => f_215_139 q x k y more 1 (Int32.ofNat n) c V) (fun k' c => c = Int32.ofNat k' ∧ ∀ i, i < k' → 0 ≤ (rW U s i).toInt ∧ (rW U s i).toInt < (U.1 (5 + 5 * t) 5).toInt) (fun o => (¬ rbad U s (5 + 5 * t) n ∧ o = f_215_190 x k y more 1 (Int32.ofNat n) V) ∨ (rbad U s (5 + 5 * t) n ∧ o = (f_174 (-6) V).bind fun q => some (q.1, q.2))) n ?_ ?_ n 0 FU 0 (by omega) (by unfold FU; omega) ⟨rfl, fun i hi => by omega⟩
  · rintro k' c q hk ⟨rfl, hno⟩
    have m := mul64 (s := y) (i := Int32.ofNat k') hy (ofNat_int (by omega)) hs (by omega)
    have mc : (64 * y + Int32.ofNat k').toNatClampNeg = 64 * s + k' := by rw [clamp_int, m]; omega
    have ew : (V.2.1 286 (64 * s + k')).toInt32 = rW U s k' := by rw [e286 k' (by omega)]; rfl
    rw [f_215_139, if_neg (fun q => by have := (ofNat_le (by omega) (by omega)).mp q; omega), if_pos (ib_int.mpr (by omega)), mc, ew]
    by_cases c1 : rW U s k' < 0
    · rw [if_pos c1]
      rw [i32_lt0] at c1
      exact Or.inl (Or.inr ⟨⟨k', hk, by omega⟩, rfl⟩)
    · rw [if_neg c1, if_pos i8, ex, e291]
      rw [i32_lt0] at c1
      by_cases c2 : rW U s k' < U.1 (5 + 5 * t) 5
      · rw [if_pos c2, ofNat_succ]
        rw [i32_lt] at c2
        refine Or.inr ⟨_, ⟨rfl, fun i hi => ?_⟩, rfl⟩
        by_cases e : i = k'
        · subst e; exact ⟨by omega, c2⟩
        · exact hno i (by omega)
      · rw [if_neg c2]
        rw [i32_lt] at c2
        exact Or.inl (Or.inr ⟨⟨k', hk, by omega⟩, rfl⟩)
  · rintro c q ⟨rfl, hno⟩
    rw [f_215_139, if_pos ((ofNat_le (by omega) (by omega)).mpr (Nat.le_refl _))]
    exact Or.inl ⟨fun ⟨i, hi, hb⟩ => hb (hno i hi), rfl⟩
/-- a new meaning on both sides: what is common stays -/
theorem InvN_mg {U V : sU} {nT nM t n : Nat} (h : InvN nT nM U) (hM : nM < 12) (ht : t < nT) (hn : U.1 (5 + 5 * t) 2 = Int32.ofNat n) (hn12 : n ≤ 12) (e : ∀ a j, a ≠ 45 + 5 * nM → a ≠ 47 + 5 * nM → a ≠ 49 + 5 * nM → ¬ (a = 2 ∧ j = 3) → ¬ (a = 280 ∧ j = 1) → ¬ (298 ≤ a ∧ a ≤ 300 ∧ j = nM) → ¬ ((a = 301 ∨ a = 302) ∧ 12 * nM ≤ j ∧ j < 12 * nM + 12) → V.1 a j = U.1 a j) (el : V.2.1 = U.2.1) (c1 : V.1 2 3 = Int32.ofNat (nM + 1)) (c2 : V.1 280 1 = Int32.ofNat (nM + 1)) (f1 : V.1 299 nM = V.1 (45 + 5 * nM) 2) (f2 : V.1 298 nM = V.1 (45 + 5 * nM) 3) (f3 : 0 ≤ (V.1 (45 + 5 * nM) 2).toInt ∧ (V.1 (45 + 5 * nM) 2).toInt ≤ 5) (f4 : V.1 (45 + 5 * nM) 2 = 2 → V.1 300 nM = V.1 (45 + 5 * nM) 4 ∧ 0 ≤ (V.1 (45 + 5 * nM) 4).toInt ∧ (V.1 (45 + 5 * nM) 4).toInt ≤ 100) (f5 : V.1 (45 + 5 * nM) 3 = Int32.ofNat t) (f6 : ∀ i, i < n → V.1 301 (12 * nM + i) = V.1 (47 + 5 * nM) i ∧ 0 ≤ (V.1 (47 + 5 * nM) i).toInt ∧ (V.1 (47 + 5 * nM) i).toInt < (U.1 (5 + 5 * t) 5).toInt) (f7 : ∀ i, i < 12 → V.1 302 (12 * nM + i) = V.1 (49 + 5 * nM) i ∧ V.1 (49 + 5 * nM) i = 0) : InvN nT (nM + 1) V := by
  obtain ⟨⟨⟨d1, d2, d3, d4, hT, hMm⟩, n1, n2⟩, k2, k3, k4, k5, k6⟩ := h
  have E : ∀ a j, ¬ (45 ≤ a ∧ a < 105) → a ≠ 2 → a ≠ 280 → ¬ (298 ≤ a ∧ a < 303) → V.1 a j = U.1 a j := fun a j q1 q2 q3 q4 => e a j (by omega) (by omega) (by omega) (by omega) (by omega) (by omega) (by omega)
  refine ⟨⟨⟨(e 2 2 (by omega) (by omega) (by omega) (by omega) (by omega) (by omega) (by omega)).trans d1, c1, d3, by omega, ?_, ?_⟩, (e 280 0 (by omega) (by omega) (by omega) (by omega) (by omega) (by omega) (by omega)).trans n1, c2⟩, ?_, ?_, ?_, ?_, ?_⟩
  · intro u hu
    refine rTalk_congr ?_ ?_ ?_ ?_ ?_ ?_ (hT u hu)
    · intro f hf; exact E _ _ (by omega) (by omega) (by omega) (by omega)
    · intro i hi; exact E _ _ (by omega) (by omega) (by omega) (by omega)
    · intro i hi; exact E _ _ (by omega) (by omega) (by omega) (by omega)
    · intro f hf; exact E _ _ (by omega) (by omega) (by omega) (by omega)
    · intro i hi; exact E _ _ (by omega) (by omega) (by omega) (by omega)
    · intro i hi; exact E _ _ (by omega) (by omega) (by omega) (by omega)
  · intro m hm
    by_cases em : m = nM
    · subst em
      have e1 : 2 + 43 + 5 * m = 45 + 5 * m := by omega
      have e2 : 2 + 45 + 5 * m = 47 + 5 * m := by omega
      have e3 : 2 + 47 + 5 * m = 49 + 5 * m := by omega
      rw [e1, e2, e3]
      refine ⟨f1, f2, f3, f4, ⟨t, ht, f5, ?_⟩, ?_⟩
      · intro i hi
        have lo : V.1 (2 + 3 + 5 * t) (2 + 0) = Int32.ofNat n := by rw [E _ _ (by omega) (by omega) (by omega) (by omega), show 2 + 3 + 5 * t = 5 + 5 * t by omega]; exact hn
        dsimp only at hi ⊢
        rw [lo, ofNat_clamp (by omega)] at hi
        have l5 : V.1 (2 + 3 + 5 * t) (2 + 3) = U.1 (5 + 5 * t) 5 := by rw [E _ _ (by omega) (by omega) (by omega) (by omega), show 2 + 3 + 5 * t = 5 + 5 * t by omega]
        rw [l5]
        exact f6 i hi
      · intro i hi
        dsimp only
        obtain ⟨g1, g2⟩ := f7 i hi
        rw [g1, g2]
        exact ⟨rfl, by decide, by decide⟩
    · have q := hMm m (by omega)
      have e1 : V.1 (2 + 43 + 5 * m) = U.1 (2 + 43 + 5 * m) := by funext j; exact e _ _ (by omega) (by omega) (by omega) (by omega) (by omega) (by omega) (by omega)
      have e2 : V.1 (2 + 45 + 5 * m) = U.1 (2 + 45 + 5 * m) := by funext j; exact e _ _ (by omega) (by omega) (by omega) (by omega) (by omega) (by omega) (by omega)
      have e4 : V.1 (2 + 47 + 5 * m) = U.1 (2 + 47 + 5 * m) := by funext j; exact e _ _ (by omega) (by omega) (by omega) (by omega) (by omega) (by omega) (by omega)
      have e5 : V.1 298 m = U.1 298 m := e _ _ (by omega) (by omega) (by omega) (by omega) (by omega) (by omega) (by omega)
      have e6 : V.1 299 m = U.1 299 m := e _ _ (by omega) (by omega) (by omega) (by omega) (by omega) (by omega) (by omega)
      have e7 : V.1 300 m = U.1 300 m := e _ _ (by omega) (by omega) (by omega) (by omega) (by omega) (by omega) (by omega)
      rw [e1, e2, e4, e5, e6, e7]
      have q' := rMean_congr (GT := fun t f => V.1 (2 + 3 + 5 * t) (2 + f)) (fun u hu => E _ _ (by omega) (by omega) (by omega) (by omega)) (fun u hu => E _ _ (by omega) (by omega) (by omega) (by omega)) q
      obtain ⟨g1, g2, g3, g4, ⟨u, g5, g6, g7⟩, g8⟩ := q'
      refine ⟨g1, g2, g3, g4, ⟨u, g5, g6, ?_⟩, ?_⟩
      · intro i hi
        have := g7 i hi
        dsimp only at this hi ⊢
        have bn : i < 12 := by
          obtain ⟨n', hv, _⟩ := hT u g5
          have lo : V.1 (2 + 3 + 5 * u) (2 + 0) = Int32.ofNat n' := by rw [E _ _ (by omega) (by omega) (by omega) (by omega)]; exact hv.1
          have := hv.2.2.1
          rw [lo, ofNat_clamp (by omega)] at hi
          omega
        rw [e 301 _ (by omega) (by omega) (by omega) (by omega) (by omega) (by omega) (by omega)]
        exact this
      · intro i hi
        have := g8 i hi
        dsimp only at this ⊢
        rw [e 302 _ (by omega) (by omega) (by omega) (by omega) (by omega) (by omega) (by omega)]
        exact this
  · intro s hs
    have q := k2 s hs
    have q' : rShelf V nM s := rShelf_congr (fun j => E _ _ (by omega) (by omega) (by omega) (by omega)) (fun a q r => E _ _ (by omega) (by omega) (by omega) (by omega)) (fun i hi => by rw [el]) (fun i hi => by rw [el]) q
    rcases q' with q' | q' | ⟨a1, a2, a3, m, a4, a5, a6⟩
    · exact Or.inl q'
    · exact Or.inr (Or.inl q')
    · exact Or.inr (Or.inr ⟨a1, a2, a3, m, by omega, a5, a6⟩)
  · intro i hi
    rw [E 281 i (by omega) (by omega) (by omega) (by omega), E 209 i (by omega) (by omega) (by omega) (by omega)]
    exact k3 i hi
  · rw [e 280 2 (by omega) (by omega) (by omega) (by omega) (by omega) (by omega) (by omega), E 0 5 (by omega) (by omega) (by omega) (by omega)]
    exact k4
  · refine ⟨?_, ?_, ?_⟩
    · rw [e 280 53 (by omega) (by omega) (by omega) (by omega) (by omega) (by omega) (by omega), E 261 4 (by omega) (by omega) (by omega) (by omega)]; exact k5.1
    · rw [E 261 4 (by omega) (by omega) (by omega) (by omega)]; exact k5.2.1
    · intro i hi
      rw [E 312 i (by omega) (by omega) (by omega) (by omega), E 263 i (by omega) (by omega) (by omega) (by omega)]; exact k5.2.2 i hi
  · exact rImg_congr (E 0 3 (by omega) (by omega) (by omega) (by omega)) (fun a j q r => E a j (by omega) (by omega) (by omega) (by omega)) (fun j => E _ _ (by omega) (by omega) (by omega) (by omega)) (e 280 54 (by omega) (by omega) (by omega) (by omega) (by omega) (by omega) (by omega)) (e 280 55 (by omega) (by omega) (by omega) (by omega) (by omega) (by omega) (by omega)) (fun u hu => Or.inl (E _ _ (by omega) (by omega) (by omega) (by omega))) k6
