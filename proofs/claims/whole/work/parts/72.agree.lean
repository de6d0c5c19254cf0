/-! agree: what both would rather not have done -/
def zpu (s o r1 r2 d : Int) : Prop := 0 ≤ d ∧ d ≤ 999 ∧ r1 ≤ ((d - s).natAbs : Int) ∧ r2 ≤ ((d - o).natAbs : Int)
theorem zpu_dec {s o r1 r2 : Int} (h1 : 0 ≤ r1) (h2 : 0 ≤ r2) : ∀ (n : Nat) (d : Int), d = n → zpu s o r1 r2 d → zpu s o r1 r2 0 ∨ zpu s o r1 r2 (s + r1) ∨ zpu s o r1 r2 (o + r2) := by
  intro n
  induction n with
  | zero => intro d hd h; have e : d = 0 := hd; rw [e] at h; exact Or.inl h
  | succ n ih =>
    intro d hd h
    by_cases hp : zpu s o r1 r2 (d - 1)
    · exact ih (d - 1) (by omega) hp
    · obtain ⟨a1, a2, a3, a4⟩ := h
      by_cases c1 : r1 ≤ ((d - 1 - s).natAbs : Int)
      · by_cases c2 : r2 ≤ ((d - 1 - o).natAbs : Int)
        · exact absurd ⟨by omega, by omega, c1, c2⟩ hp
        · have e : d = o + r2 := by omega
          rw [← e]
          exact Or.inr (Or.inr ⟨a1, a2, a3, a4⟩)
      · have e : d = s + r1 := by omega
        rw [← e]
        exact Or.inr (Or.inl ⟨a1, a2, a3, a4⟩)
theorem f285_int {y : Int32} {U : sU} (h : -2147483647 ≤ y.toInt) : (f_285 y U).toInt = (y.toInt.natAbs : Int) := by
  have e0 : (0 : Int32).toInt = 0 := rfl
  unfold f_285
  by_cases c : 0 ≤ y
  · rw [if_pos c]; rw [i32_le, e0] at c; omega
  · rw [if_neg c, n32 h]; rw [i32_le, e0] at c; omega
/-- the class's three tries -/
theorem tries_c {U : sU} {v4 v5 v6 v7 : Int32} (h4 : -3000 ≤ v4.toInt ∧ v4.toInt ≤ 3000) (h5 : -3000 ≤ v5.toInt ∧ v5.toInt ≤ 3000) (h6 : 0 ≤ v6.toInt ∧ v6.toInt ≤ 3000) (h7 : 0 ≤ v7.toInt ∧ v7.toInt ≤ 3000) : (f_111_88 FU v4 v5 v6 v7 0 U = some 1 ∧ ∃ d, zpu v4.toInt v5.toInt v6.toInt v7.toInt d) ∨ (f_111_88 FU v4 v5 v6 v7 0 U = some 0 ∧ ¬ ∃ d, zpu v4.toInt v5.toInt v6.toInt v7.toInt d) := by
  have e3 : (3 : Int32).toInt = 3 := rfl
  have m1 : (v4 + v6).toInt = v4.toInt + v6.toInt := a32 (by omega) (by omega)
  have m2 : (v5 + v7).toInt = v5.toInt + v7.toInt := a32 (by omega) (by omega)
  have z0 : (0 : Int32).toInt = 0 := rfl
  -- one try
  have one : ∀ (m k : Nat) (z : Int32), (-6000 ≤ z.toInt ∧ z.toInt ≤ 6000) → (zpu v4.toInt v5.toInt v6.toInt v7.toInt z.toInt ∧ f_111_122 (fun v4 v5 v6 v7 v8 U => f_111_88 m v4 v5 v6 v7 v8 U) v4 v5 v6 v7 (Int32.ofNat k) z U = some 1) ∨ (¬ zpu v4.toInt v5.toInt v6.toInt v7.toInt z.toInt ∧ f_111_122 (fun v4 v5 v6 v7 v8 U => f_111_88 m v4 v5 v6 v7 v8 U) v4 v5 v6 v7 (Int32.ofNat k) z U = f_111_88 m v4 v5 v6 v7 (Int32.ofNat (k + 1)) U) := by
    intro m k z hz
    have d1 : (z - v4).toInt = z.toInt - v4.toInt := s32 (by omega) (by omega)
    have d2 : (z - v5).toInt = z.toInt - v5.toInt := s32 (by omega) (by omega)
    have a1 : (f_285 (z - v4) U).toInt = ((z.toInt - v4.toInt).natAbs : Int) := by rw [f285_int (by omega), d1]
    have a2 : (f_285 (z - v5) U).toInt = ((z.toInt - v5.toInt).natAbs : Int) := by rw [f285_int (by omega), d2]
    unfold f_111_122
    by_cases c1 : f_285 (z - v4) U < v6
    · rw [if_pos c1]
      rw [i32_lt, a1] at c1
      refine Or.inr ⟨fun q => by have := q.2.2.1; omega, ?_⟩
      unfold f_111_154 f_111_155
      by_cases c3 : f_170 z U = 0
      · rw [if_pos c3, ofNat_succ]
      · rw [if_neg c3, if_pos rfl, ofNat_succ]
    · rw [if_neg c1]
      rw [i32_lt, a1] at c1
      by_cases c2 : f_285 (z - v5) U < v7
      · rw [if_pos c2]
        rw [i32_lt, a2] at c2
        refine Or.inr ⟨fun q => by have := q.2.2.2; omega, ?_⟩
        unfold f_111_154 f_111_155
        by_cases c3 : f_170 z U = 0
        · rw [if_pos c3, ofNat_succ]
        · rw [if_neg c3, if_pos rfl, ofNat_succ]
      · rw [if_neg c2]
        rw [i32_lt, a2] at c2
        unfold f_111_155
        by_cases c3 : f_170 z U = 0
        · rw [if_pos c3, ofNat_succ]
          rw [f170_iff] at c3
          exact Or.inr ⟨fun q => c3 ⟨q.1, q.2.1⟩, rfl⟩
        · rw [if_neg c3, if_neg (by decide)]
          rw [f170_iff] at c3
          exact Or.inl ⟨⟨by omega, by omega, by omega, by omega⟩, rfl⟩
  have dec := zpu_dec (s := v4.toInt) (o := v5.toInt) (r1 := v6.toInt) (r2 := v7.toInt) h6.1 h7.1
  obtain ⟨m, hm⟩ : ∃ m, FU = m + 4 := ⟨4996, rfl⟩
  rw [hm]
  have s0 : f_111_88 (m + 4) v4 v5 v6 v7 0 U = f_111_122 (fun v4 v5 v6 v7 v8 U => f_111_88 (m + 3) v4 v5 v6 v7 v8 U) v4 v5 v6 v7 (Int32.ofNat 0) 0 U := by
    rw [f_111_88, if_neg (by decide), if_pos rfl]
    rfl
  have s1 : f_111_88 (m + 3) v4 v5 v6 v7 (Int32.ofNat 1) U = f_111_122 (fun v4 v5 v6 v7 v8 U => f_111_88 (m + 2) v4 v5 v6 v7 v8 U) v4 v5 v6 v7 (Int32.ofNat 1) (v4 + v6) U := by
    rw [f_111_88, if_neg (by decide), if_neg (by decide), if_pos (by decide)]
  have s2 : f_111_88 (m + 2) v4 v5 v6 v7 (Int32.ofNat 2) U = f_111_122 (fun v4 v5 v6 v7 v8 U => f_111_88 (m + 1) v4 v5 v6 v7 v8 U) v4 v5 v6 v7 (Int32.ofNat 2) (v5 + v7) U := by
    rw [f_111_88, if_neg (by decide), if_neg (by decide), if_neg (by decide)]
  have s3 : f_111_88 (m + 1) v4 v5 v6 v7 (Int32.ofNat 3) U = some 0 := by
    rw [f_111_88, if_pos (by decide)]
  rw [s0]
  rcases one (m + 3) 0 0 (by omega) with ⟨p0, q0⟩ | ⟨p0, q0⟩
  · exact Or.inl ⟨q0, _, p0⟩
  rw [q0, s1]
  rcases one (m + 2) 1 (v4 + v6) (by omega) with ⟨p1, q1⟩ | ⟨p1, q1⟩
  · exact Or.inl ⟨q1, _, p1⟩
  rw [q1, s2]
  rcases one (m + 1) 2 (v5 + v7) (by omega) with ⟨p2, q2⟩ | ⟨p2, q2⟩
  · exact Or.inl ⟨q2, _, p2⟩
  rw [q2, s3]
  refine Or.inr ⟨rfl, ?_⟩
  rintro ⟨d, hd⟩
  rw [m1] at p1
  rw [m2] at p2
  rcases dec d.toNat d (by have := hd.1; omega) hd with q | q | q
  · exact p0 q
  · exact p1 q
  · exact p2 q
/-- on both sides: whether both can be punished -/
theorem pun_eq {U : sU} {t n : Nat} (hM : MT U t n) {x y : Int32} (hx : x.toInt = t) (hy : -500 ≤ y.toInt ∧ y.toInt ≤ 500) {i j : Nat} (hi : i < n) (hj : j < n) : ∃ r, f_111 (5 + 5 * t) (Int32.ofNat i) (Int32.ofNat j) y U = some r ∧ f_266 x (Int32.ofNat i) (Int32.ofNat j) y U = some r := by
  have t8 := hM.1
  have hT := hM.2.1
  have n12 := hT.2.2.1
  have t9 := hT.2.2.2.2.2.2.2.2.1
  have t5 := hT.2.2.2.2.1
  have bi := t5 i hi
  have bj := t5 j hj
  have hl := hM.2.2.2.2.1
  have hw := hM.2.2.2.1
  have ex : x.toNatClampNeg = t := by rw [clamp_int]; omega
  have i8 : ib x 8 := ib_int.mpr (by omega)
  obtain ⟨m1, m2⟩ := mul12 (s := x) (i := Int32.ofNat i) hx (ofNat_int (by omega)) (by omega) (by omega)
  obtain ⟨m3, m4⟩ := mul12 (s := x) (i := Int32.ofNat j) hx (ofNat_int (by omega)) (by omega) (by omega)
  have xi : (U.1 (5 + 5 * t + 2) i).toInt = gX U (5 + 5 * t) i := rfl
  have xj : (U.1 (5 + 5 * t + 2) j).toInt = gX U (5 + 5 * t) j := rfl
  generalize hL : U.1 (5 + 5 * t) 4 = L at *
  generalize hWi : U.1 (5 + 5 * t) 3 = w at *
  generalize hXi : U.1 (5 + 5 * t + 2) i = a at *
  generalize hXj : U.1 (5 + 5 * t + 2) j = b at *
  have sI' : (b + w).toInt = b.toInt + w.toInt := a32 (by omega) (by omega)
  have oI : (a + y).toInt = a.toInt + y.toInt := a32 (by omega) (by omega)
  have lb : (b + L).toInt64.toInt = b.toInt + L.toInt := by rw [w64, a32 (by omega) (by omega)]
  have la : (a + L).toInt64.toInt = a.toInt + L.toInt := by rw [w64, a32 (by omega) (by omega)]
  have cb := zc_bd (b.toInt + L.toInt)
  have ca := zc_bd (a.toInt + L.toInt)
  have kb : (f_172 (b + L).toInt64 0 999 U).toInt = zc (b.toInt + L.toInt) := by rw [within_int, lb]
  have ka : (f_172 (a + L).toInt64 0 999 U).toInt = zc (a.toInt + L.toInt) := by rw [within_int, la]
  have db : (f_172 (b + L).toInt64 0 999 U - (b + w)).toInt = zc (b.toInt + L.toInt) - (b.toInt + w.toInt) := by rw [s32 (by rw [kb, sI']; omega) (by rw [kb, sI']; omega), kb, sI']
  have da : (f_172 (a + L).toInt64 0 999 U - (a + y)).toInt = zc (a.toInt + L.toInt) - (a.toInt + y.toInt) := by rw [s32 (by rw [ka, oI]; omega) (by rw [ka, oI]; omega), ka, oI]
  have rb : (f_285 (f_172 (b + L).toInt64 0 999 U - (b + w)) U).toInt = ((zc (b.toInt + L.toInt) - (b.toInt + w.toInt)).natAbs : Int) := by rw [f285_int (by omega), db]
  have ra : (f_285 (f_172 (a + L).toInt64 0 999 U - (a + y)) U).toInt = ((zc (a.toInt + L.toInt) - (a.toInt + y.toInt)).natAbs : Int) := by rw [f285_int (by omega), da]
  have cls := tries_c (U := U) (v4 := b + w) (v5 := a + y) (v6 := f_285 (f_172 (b + L).toInt64 0 999 U - (b + w)) U) (v7 := f_285 (f_172 (a + L).toInt64 0 999 U - (a + y)) U) (by omega) (by omega) (by omega) (by omega)
  have e1 : f_111 (5 + 5 * t) (Int32.ofNat i) (Int32.ofNat j) y U = f_111_88 FU (b + w) (a + y) (f_285 (f_172 (b + L).toInt64 0 999 U - (b + w)) U) (f_285 (f_172 (a + L).toInt64 0 999 U - (a + y)) U) 0 U := by
    unfold f_111
    rw [iget_k t9 (by omega), iget_k t9 (by omega), hXi, hXj, hL, hWi]
  rw [sI', oI, rb, ra] at cls
  have x96 := hM.2.2.2.2.2.2.2.2.2.2
  have q6 : U.1 (5 + 5 * t) 6 = U.1 (5 + 5 * t) 6 := rfl
  -- the reference's sides
  have pb' : (f_261 (b + L) U - b - w).toInt64.toInt = zc (b.toInt + L.toInt) - b.toInt - w.toInt := by
    have k : (f_261 (b + L) U).toInt = zc (b.toInt + L.toInt) := by rw [f261_eq (V := U), kb]
    have k2 : (f_261 (b + L) U - b).toInt = zc (b.toInt + L.toInt) - b.toInt := by rw [s32 (by rw [k]; omega) (by rw [k]; omega), k]
    rw [w64, s32 (by rw [k2]; omega) (by rw [k2]; omega), k2]
  have pa' : (f_261 (a + L) U - a - y).toInt64.toInt = zc (a.toInt + L.toInt) - a.toInt - y.toInt := by
    have k : (f_261 (a + L) U).toInt = zc (a.toInt + L.toInt) := by rw [f261_eq (V := U), ka]
    have k2 : (f_261 (a + L) U - a).toInt = zc (a.toInt + L.toInt) - a.toInt := by rw [s32 (by rw [k]; omega) (by rw [k]; omega), k]
    rw [w64, s32 (by rw [k2]; omega) (by rw [k2]; omega), k2]
  obtain ⟨one, one1, one2⟩ := loses_m hM hx (d := (f_261 (b + L) U - b - w).toInt64) (by rw [pb']; omega) (by rw [pb']; omega)
  obtain ⟨oth, oth1, oth2⟩ := loses_m hM hx (d := (f_261 (a + L) U - a - y).toInt64) (by rw [pa']; omega) (by rw [pa']; omega)
  rw [pb'] at one2
  rw [pa'] at oth2
  have e999 : (999 : Int32).toInt = 999 := rfl
  have mdl : (f_266 x (Int32.ofNat i) (Int32.ofNat j) y U = some 1 ∧ ∃ d, zpu (b.toInt + w.toInt) (a.toInt + y.toInt) ((zc (b.toInt + L.toInt) - (b.toInt + w.toInt)).natAbs : Int) ((zc (a.toInt + L.toInt) - (a.toInt + y.toInt)).natAbs : Int) d) ∨ (f_266 x (Int32.ofNat i) (Int32.ofNat j) y U = some 0 ∧ ¬ ∃ d, zpu (b.toInt + w.toInt) (a.toInt + y.toInt) ((zc (b.toInt + L.toInt) - (b.toInt + w.toInt)).natAbs : Int) ((zc (a.toInt + L.toInt) - (a.toInt + y.toInt)).natAbs : Int) d) := by
    unfold f_266
    simp only [if_pos (ib_int.mpr (show 0 ≤ (12 * x + Int32.ofNat i).toInt ∧ (12 * x + Int32.ofNat i).toInt < (96 : Nat) by omega)), if_pos (ib_int.mpr (show 0 ≤ (12 * x + Int32.ofNat j).toInt ∧ (12 * x + Int32.ofNat j).toInt < (96 : Nat) by omega)), if_pos i8, m2, m4, ex, (x96 i hi).1, (x96 j hj).1, hXi, hXj, hl.1, hw.1, one1, oth1, Option.bind_some]
    refine loop_ex (fun m (s : Int32) => f_266_87 m x y a b one oth s U) (fun k s => s = Int32.ofNat k ∧ ∀ d : Int, 0 ≤ d → d < k → ¬ zpu (b.toInt + w.toInt) (a.toInt + y.toInt) ((zc (b.toInt + L.toInt) - (b.toInt + w.toInt)).natAbs : Int) ((zc (a.toInt + L.toInt) - (a.toInt + y.toInt)).natAbs : Int) d) (fun o => (o = some 1 ∧ ∃ d, zpu (b.toInt + w.toInt) (a.toInt + y.toInt) ((zc (b.toInt + L.toInt) - (b.toInt + w.toInt)).natAbs : Int) ((zc (a.toInt + L.toInt) - (a.toInt + y.toInt)).natAbs : Int) d) ∨ (o = some 0 ∧ ¬ ∃ d, zpu (b.toInt + w.toInt) (a.toInt + y.toInt) ((zc (b.toInt + L.toInt) - (b.toInt + w.toInt)).natAbs : Int) ((zc (a.toInt + L.toInt) - (a.toInt + y.toInt)).natAbs : Int) d)) 1000 ?_ ?_ 1000 0 FU 0 (by omega) (by unfold FU; omega) ⟨rfl, fun d h1 h2 => by omega⟩
    · rintro k s m hk ⟨rfl, hno⟩
      have kI : (Int32.ofNat k).toInt = k := ofNat_int (by omega)
      have d1 : (Int32.ofNat k - b - w).toInt64.toInt = k - b.toInt - w.toInt := by
        have k2 : (Int32.ofNat k - b).toInt = k - b.toInt := by rw [s32 (by rw [kI]; omega) (by rw [kI]; omega), kI]
        rw [w64, s32 (by rw [k2]; omega) (by rw [k2]; omega), k2]
      have d2 : (Int32.ofNat k - a - y).toInt64.toInt = k - a.toInt - y.toInt := by
        have k2 : (Int32.ofNat k - a).toInt = k - a.toInt := by rw [s32 (by rw [kI]; omega) (by rw [kI]; omega), kI]
        rw [w64, s32 (by rw [k2]; omega) (by rw [k2]; omega), k2]
      obtain ⟨p, p1, p2⟩ := loses_m hM hx (d := (Int32.ofNat k - b - w).toInt64) (by rw [d1]; omega) (by rw [d1]; omega)
      obtain ⟨q, q1, q2⟩ := loses_m hM hx (d := (Int32.ofNat k - a - y).toInt64) (by rw [d2]; omega) (by rw [d2]; omega)
      rw [d1] at p2
      rw [d2] at q2
      have lp := zl_le (q := U.1 (5 + 5 * t) 6) (d := zc (b.toInt + L.toInt) - b.toInt - w.toInt) (e := k - b.toInt - w.toInt)
      have lq := zl_le (q := U.1 (5 + 5 * t) 6) (d := zc (a.toInt + L.toInt) - a.toInt - y.toInt) (e := k - a.toInt - y.toInt)
      rw [← one2, ← p2] at lp
      rw [← oth2, ← q2] at lq
      have next : ¬ zpu (b.toInt + w.toInt) (a.toInt + y.toInt) ((zc (b.toInt + L.toInt) - (b.toInt + w.toInt)).natAbs : Int) ((zc (a.toInt + L.toInt) - (a.toInt + y.toInt)).natAbs : Int) (k : Int) → ∃ s', (s' = Int32.ofNat (k + 1) ∧ ∀ d : Int, 0 ≤ d → d < (k + 1 : Nat) → ¬ zpu (b.toInt + w.toInt) (a.toInt + y.toInt) ((zc (b.toInt + L.toInt) - (b.toInt + w.toInt)).natAbs : Int) ((zc (a.toInt + L.toInt) - (a.toInt + y.toInt)).natAbs : Int) d) ∧ f_266_87 m x y a b one oth (Int32.ofNat k + 1) U = f_266_87 m x y a b one oth s' U := by
        intro hk'
        refine ⟨_, ⟨rfl, fun d h1 h2 => ?_⟩, by rw [ofNat_succ]⟩
        by_cases e : d = k
        · rw [e]; exact hk'
        · exact hno d h1 (by omega)
      rw [f_266_87, if_neg (by rw [i32_lt, e999, kI]; omega), if_pos i8, ex, hw.1, p1, Option.bind_some]
      by_cases c1 : one.toInt ≤ p.toInt
      · rw [if_neg (by rw [cmp_lt]; omega), q1, Option.bind_some]
        have n1 := lp.mp c1
        by_cases c2 : oth.toInt ≤ q.toInt
        · rw [if_neg (by rw [cmp_lt]; omega)]
          have n2 := lq.mp c2
          exact Or.inl (Or.inl ⟨rfl, (k : Int), by omega, by omega, by omega, by omega⟩)
        · rw [if_pos (by rw [cmp_lt]; omega)]
          have n2 : ¬ _ := fun g => c2 (lq.mpr g)
          exact Or.inr (next (fun g => by have := g.2.2.2; omega))
      · rw [if_pos (by rw [cmp_lt]; omega)]
        have n1 : ¬ _ := fun g => c1 (lp.mpr g)
        exact Or.inr (next (fun g => by have := g.2.2.1; omega))
    · rintro s m ⟨rfl, hno⟩
      rw [f_266_87, if_pos (by rw [i32_lt, e999, ofNat_int (by omega)]; omega)]
      refine Or.inr ⟨rfl, ?_⟩
      rintro ⟨d, hd⟩
      exact hno d hd.1 (by have := hd.2.1; omega) hd
  rw [e1]
  rcases cls with ⟨c1, c2⟩ | ⟨c1, c2⟩
  · rcases mdl with ⟨d1, d2⟩ | ⟨d1, d2⟩
    · exact ⟨1, c1, d1⟩
    · exact absurd c2 d2
  · rcases mdl with ⟨d1, d2⟩ | ⟨d1, d2⟩
    · exact absurd d2 c2
    · exact ⟨0, c1, d1⟩
theorem disp_in {U : sU} {t n : Nat} (hM : MT U t n) {x y : Int32} (hx : x.toInt = t) (hy : -500 ≤ y.toInt ∧ y.toInt ≤ 500) {i : Nat} (hi : i < n) (kc : Nat → Int32 → Int32 → sU → Option Int32) (km : Int32 → Int32 → Int32 → sU → Option (Int32 × sU)) (hk : km x y (Int32.ofNat (i + 1)) U = (kc (5 + 5 * t) y (Int32.ofNat (i + 1)) U).map fun r => (r, U)) : ∀ m j, j ≤ n → f_267_50 km m x y (Int32.ofNat i) (Int32.ofNat j) U = (f_110_12 kc m (5 + 5 * t) y (Int32.ofNat i) (Int32.ofNat j) U).map fun r => (r, U) := by
  have hT := hM.2.1
  have n12 := hT.2.2.1
  have t8 := hM.1
  have ex : x.toNatClampNeg = t := by rw [clamp_int]; omega
  have i8 : ib x 8 := ib_int.mpr (by omega)
  intro m
  induction m with
  | zero => intro j _; rfl
  | succ m ih =>
    intro j hj
    rw [f_267_50, f_110_12, hT.1, if_pos i8, ex, hM.2.2.1]
    by_cases hjn : j = n
    · rw [if_pos ((ofNat_le (by omega) (by omega)).mpr (by omega)), if_pos ((ofNat_le (by omega) (by omega)).mpr (by omega)), ofNat_succ]
      exact hk
    · have nle : ¬ Int32.ofNat n ≤ Int32.ofNat j := fun q => by have := (ofNat_le (by omega) (by omega)).mp q; omega
      rw [if_neg nle, if_neg nle, ofNat_succ]
      by_cases hij : j = i
      · rw [if_pos (by rw [hij]), if_pos (by rw [hij])]
        exact ih (j + 1) (by omega)
      · obtain ⟨r, r1, r2⟩ := pun_eq hM hx hy hi (by omega : j < n)
        rw [if_neg (ofNat_ne (by omega) (by omega) hij), if_neg (ofNat_ne (by omega) (by omega) (fun e => hij e.symm)), r1, r2, Option.bind_some, Option.bind_some]
        by_cases hr : r = 0
        · rw [if_pos hr, if_pos hr]; rfl
        · rw [if_neg hr, if_neg hr]
          exact ih (j + 1) (by omega)
theorem disp_out {U : sU} {t n : Nat} (hM : MT U t n) {x y : Int32} (hx : x.toInt = t) (hy : -500 ≤ y.toInt ∧ y.toInt ≤ 500) : ∀ m i, i ≤ n → f_267_37 m x y (Int32.ofNat i) U = (f_110_2 m (5 + 5 * t) y (Int32.ofNat i) U).map fun r => (r, U) := by
  have hT := hM.2.1
  have n12 := hT.2.2.1
  have t8 := hM.1
  have ex : x.toNatClampNeg = t := by rw [clamp_int]; omega
  have i8 : ib x 8 := ib_int.mpr (by omega)
  intro m
  induction m with
  | zero => intro i _; rfl
  | succ m ih =>
    intro i hi
    rw [f_267_37, f_110_2, hT.1, if_pos i8, ex, hM.2.2.1]
    by_cases hin : i = n
    · rw [if_pos ((ofNat_le (by omega) (by omega)).mpr (by omega)), if_pos ((ofNat_le (by omega) (by omega)).mpr (by omega))]
      rfl
    · have nle : ¬ Int32.ofNat n ≤ Int32.ofNat i := fun q => by have := (ofNat_le (by omega) (by omega)).mp q; omega
      rw [if_neg nle, if_neg nle]
      exact disp_in hM hx hy (by omega) _ _ (ih (i + 1) (by omega)) FU 0 (by omega)
theorem disp_ends {U : sU} {t n : Nat} (hM : MT U t n) {y : Int32} (hE : ∀ i j, i < n → j < n → ∃ r, f_111 (5 + 5 * t) (Int32.ofNat i) (Int32.ofNat j) y U = some r) : ∃ r, f_110 (5 + 5 * t) y U = some r := by
  have hT := hM.2.1
  have n12 := hT.2.2.1
  unfold f_110
  refine loop_ex (fun m (s : Int32) => f_110_2 m (5 + 5 * t) y s U) (fun i s => s = Int32.ofNat i) (fun o => ∃ r, o = some r) n ?_ ?_ n 0 FU 0 (by omega) (by unfold FU; omega) rfl
  · rintro i s m hi rfl
    have nle : ¬ Int32.ofNat n ≤ Int32.ofNat i := fun q => by have := (ofNat_le (by omega) (by omega)).mp q; omega
    rw [f_110_2, hT.1, if_neg nle]
    refine loop_ex (fun m' (s : Int32) => f_110_12 (fun a v1 v2 U => f_110_2 m a v1 v2 U) m' (5 + 5 * t) y (Int32.ofNat i) s U) (fun j s => s = Int32.ofNat j) (fun o => (∃ r, o = some r) ∨ ∃ s', s' = Int32.ofNat (i + 1) ∧ o = f_110_2 m (5 + 5 * t) y s' U) n ?_ ?_ n 0 FU 0 (by omega) (by unfold FU; omega) rfl
    · rintro j s m' hj rfl
      have nle : ¬ Int32.ofNat n ≤ Int32.ofNat j := fun q => by have := (ofNat_le (by omega) (by omega)).mp q; omega
      obtain ⟨r, r1⟩ := hE i j hi hj
      rw [f_110_12, hT.1, if_neg nle, ofNat_succ]
      by_cases hij : Int32.ofNat i = Int32.ofNat j
      · rw [if_pos hij]
        exact Or.inr ⟨_, rfl, rfl⟩
      · rw [if_neg hij, r1, Option.bind_some]
        by_cases hr : r = 0
        · rw [if_pos hr]; exact Or.inl (Or.inl ⟨_, rfl⟩)
        · rw [if_neg hr]; exact Or.inr ⟨_, rfl, rfl⟩
    · rintro s m' rfl
      rw [f_110_12, hT.1, if_pos ((ofNat_le (by omega) (by omega)).mpr (by omega)), ofNat_succ]
      exact Or.inr ⟨_, rfl, rfl⟩
  · rintro s m rfl
    rw [f_110_2, hT.1, if_pos ((ofNat_le (by omega) (by omega)).mpr (by omega))]
    exact ⟨_, rfl⟩
theorem st_agree {U : sU} (h : Inv U) (x y : Int32) : Two (f_149 x y U) (f_267 x y) := by
  have h0 := h
  have e1' : ((-500) : Int32).toInt = -500 := rfl
  have e2' : (500 : Int32).toInt = 500 := rfl
  obtain ⟨nT, nM, h⟩ := h
  have n8 := h.1.1.2.2.1
  have r0 : ∀ w : Int32, (1 ≤ w.toInt ∧ w.toInt ≤ 7) → (f_159 w U).2.1 280 0 = Int32.ofNat nT := fun w hw => (f159_1 hw (by decide)).trans h.1.2.1
  by_cases hx : 0 ≤ x.toInt ∧ x.toInt < nT
  case neg => exact ten_to h0 (w := 1) (by decide) (by unfold f_149; rw [tat_no h hx]) (by unfold f_267; rw [if_pos (f178_no (r0 1 (by decide)) n8 hx)])
  obtain ⟨e1, e2, e3, e4, _⟩ := tat_yes h hx
  obtain ⟨n, hM⟩ := MT_of h e2
  by_cases hy : -500 ≤ y.toInt ∧ y.toInt ≤ 500
  case neg =>
    refine ten_to h0 (w := 6) (by decide) (by unfold f_149; rw [e1]; dsimp only; rw [if_pos (f171_iff.mpr hy)]) ?_
    unfold f_267
    rw [if_neg (f178_yes (r0 6 (by decide)) n8 hx)]
    by_cases y0 : y < (-500)
    · rw [if_pos y0]
    · rw [if_neg y0]
      rw [i32_lt, e1'] at y0
      rw [if_neg (by rw [i32_le, e2']; omega)]
  have hE : ∀ i j, i < n → j < n → ∃ r, f_111 (5 + 5 * x.toNatClampNeg) (Int32.ofNat i) (Int32.ofNat j) y U = some r := fun i j hi hj => by
    obtain ⟨r, r1, _⟩ := pun_eq hM e4 hy hi hj
    exact ⟨r, r1⟩
  obtain ⟨r, r1⟩ := disp_ends hM hE
  have q := disp_out hM e4 hy FU 0 (by omega)
  have r1' : f_110_2 FU (5 + 5 * x.toNatClampNeg) y (Int32.ofNat 0) U = some r := r1
  rw [r1'] at q
  refine ⟨r, U, U, ?_, ?_, h0⟩
  · unfold f_149
    rw [e1]
    dsimp only
    rw [if_neg (fun g => f171_iff.mp g hy), r1]
    rfl
  · unfold f_267
    rw [if_neg (f178_yes h.1.2.1 n8 hx), if_neg (by rw [i32_lt, e1']; omega), if_pos (by rw [i32_le, e2']; omega)]
    exact q
