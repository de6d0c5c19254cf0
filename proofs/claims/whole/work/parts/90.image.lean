/-! image and restore: a store copied, on the class's side -/
theorem icpy_1 {a x : Nat} {U : sU} (hl : ln (a + 1) = 12) (hx : ln (x + 1) = 12) : (∀ j, j < 12 → (icpy a x U).1 (a + 1) j = U.1 (x + 1) j) ∧ (∀ b j, b ≠ a + 1 → (icpy a x U).1 b j = U.1 b j) ∧ (icpy a x U).2 = U.2 := by
  have c : ∀ b j, (icpy a x U).1 b j = if b = a + 1 ∧ j < ln (a + 1) then iget x (Int32.ofNat j) U else U.1 b j := fun b j => rfl
  refine ⟨fun j hj => ?_, fun b j hb => ?_, rfl⟩
  · rw [c, if_pos ⟨rfl, by omega⟩]
    unfold iget
    rw [if_pos (ib_ofNat (by omega) (by omega)), ofNat_clamp (by omega)]
  · rw [c, if_neg (fun q => hb q.1)]
theorem f100_eq {a x : Nat} {U : sU} (h : x ≠ a) : f_100 a x U = if (icpy (a + 3) (x + 3) (icpy (a + 1) (x + 1) U)).1 x 7 = 0 ∨ (icpy (a + 3) (x + 3) (icpy (a + 1) (x + 1) U)).1 x 7 = 1 then some (sI (sI (sI (sI (sI (sI (sI (sI (icpy (a + 3) (x + 3) (icpy (a + 1) (x + 1) U)) a 2 ((icpy (a + 3) (x + 3) (icpy (a + 1) (x + 1) U)).1 x 2)) a 3 ((icpy (a + 3) (x + 3) (icpy (a + 1) (x + 1) U)).1 x 3)) a 4 ((icpy (a + 3) (x + 3) (icpy (a + 1) (x + 1) U)).1 x 4)) a 5 ((icpy (a + 3) (x + 3) (icpy (a + 1) (x + 1) U)).1 x 5)) a 6 ((icpy (a + 3) (x + 3) (icpy (a + 1) (x + 1) U)).1 x 6)) a 7 ((icpy (a + 3) (x + 3) (icpy (a + 1) (x + 1) U)).1 x 7)) a 8 ((icpy (a + 3) (x + 3) (icpy (a + 1) (x + 1) U)).1 x 8)) a 9 ((icpy (a + 3) (x + 3) (icpy (a + 1) (x + 1) U)).1 x 9)) else none := by
  unfold f_100
  generalize icpy (a + 3) (x + 3) (icpy (a + 1) (x + 1) U) = g
  simp only [sI_ne h]
theorem f33_eq {a x : Nat} {U : sU} (h : x ≠ a) : f_33 a x U = sI (sI (sI (icpy (a + 3) (x + 3) (icpy (a + 1) (x + 1) U)) a 2 ((icpy (a + 3) (x + 3) (icpy (a + 1) (x + 1) U)).1 x 2)) a 3 ((icpy (a + 3) (x + 3) (icpy (a + 1) (x + 1) U)).1 x 3)) a 4 ((icpy (a + 3) (x + 3) (icpy (a + 1) (x + 1) U)).1 x 4) := by
  unfold f_33
  generalize icpy (a + 3) (x + 3) (icpy (a + 1) (x + 1) U) = g
  simp only [sI_ne h]
theorem icpy2 {a x : Nat} {U : sU} (hd : x + 4 < a ∨ a + 4 < x) (l1 : ln (a + 2) = 12) (l2 : ln (a + 4) = 12) (l3 : ln (x + 2) = 12) (l4 : ln (x + 4) = 12) : (∀ i, i < 12 → (icpy (a + 3) (x + 3) (icpy (a + 1) (x + 1) U)).1 (a + 2) i = U.1 (x + 2) i) ∧ (∀ i, i < 12 → (icpy (a + 3) (x + 3) (icpy (a + 1) (x + 1) U)).1 (a + 4) i = U.1 (x + 4) i) ∧ (∀ b j, b ≠ a + 2 → b ≠ a + 4 → (icpy (a + 3) (x + 3) (icpy (a + 1) (x + 1) U)).1 b j = U.1 b j) ∧ (icpy (a + 3) (x + 3) (icpy (a + 1) (x + 1) U)).2 = U.2 := by
  obtain ⟨p1, p2, p3⟩ := icpy_1 (a := a + 1) (x := x + 1) (U := U) l1 l3
  obtain ⟨q1, q2, q3⟩ := icpy_1 (a := a + 3) (x := x + 3) (U := icpy (a + 1) (x + 1) U) l2 l4
  refine ⟨fun i hi => ?_, fun i hi => ?_, fun b j h1 h2 => ?_, q3.trans p3⟩
  · rw [q2 _ _ (by omega)]; exact p1 i hi
  · rw [show a + 4 = a + 3 + 1 by omega, q1 i hi, p2 _ _ (by omega)]
  · rw [q2 _ _ (by omega), p2 _ _ (by omega)]
theorem tcopy {a x : Nat} {U : sU} (hd : x + 4 < a ∨ a + 4 < x) (l1 : ln (a + 2) = 12) (l2 : ln (a + 4) = 12) (l3 : ln (x + 2) = 12) (l4 : ln (x + 4) = 12) (h7 : U.1 x 7 = 0 ∨ U.1 x 7 = 1) : ∃ V, f_100 a x U = some V ∧ V.2 = U.2 ∧ (∀ j, 2 ≤ j → j ≤ 9 → V.1 a j = U.1 x j) ∧ (∀ i, i < 12 → V.1 (a + 2) i = U.1 (x + 2) i) ∧ (∀ i, i < 12 → V.1 (a + 4) i = U.1 (x + 4) i) ∧ ∀ b j, b ≠ a → b ≠ a + 2 → b ≠ a + 4 → V.1 b j = U.1 b j := by
  obtain ⟨p1, p2, p3, p4⟩ := icpy2 (U := U) hd l1 l2 l3 l4
  rw [f100_eq (by omega)]
  generalize icpy (a + 3) (x + 3) (icpy (a + 1) (x + 1) U) = g at *
  have rx : ∀ j, g.1 x j = U.1 x j := fun j => p3 x j (by omega) (by omega)
  rw [if_pos (by rw [rx]; exact h7)]
  refine ⟨_, rfl, p4, fun j h2 h9 => ?_, fun i hi => ?_, fun i hi => ?_, fun b j h1 h2 h3 => ?_⟩
  · have : j = 2 ∨ j = 3 ∨ j = 4 ∨ j = 5 ∨ j = 6 ∨ j = 7 ∨ j = 8 ∨ j = 9 := by omega
    rcases this with rfl | rfl | rfl | rfl | rfl | rfl | rfl | rfl
    all_goals simp (disch := omega) only [sI_nj, sI_at, rx]
  · simp (disch := omega) only [sI_ne]; exact p1 i hi
  · simp (disch := omega) only [sI_ne]; exact p2 i hi
  · simp (disch := omega) only [sI_ne]; exact p3 b j h2 h3
theorem mcopy {a x : Nat} {U : sU} (hd : x + 4 < a ∨ a + 4 < x) (l1 : ln (a + 2) = 12) (l2 : ln (a + 4) = 12) (l3 : ln (x + 2) = 12) (l4 : ln (x + 4) = 12) : (f_33 a x U).2 = U.2 ∧ (∀ j, 2 ≤ j → j ≤ 4 → (f_33 a x U).1 a j = U.1 x j) ∧ (∀ i, i < 12 → (f_33 a x U).1 (a + 2) i = U.1 (x + 2) i) ∧ (∀ i, i < 12 → (f_33 a x U).1 (a + 4) i = U.1 (x + 4) i) ∧ ∀ b j, b ≠ a → b ≠ a + 2 → b ≠ a + 4 → (f_33 a x U).1 b j = U.1 b j := by
  obtain ⟨p1, p2, p3, p4⟩ := icpy2 (U := U) hd l1 l2 l3 l4
  rw [f33_eq (by omega)]
  generalize icpy (a + 3) (x + 3) (icpy (a + 1) (x + 1) U) = g at *
  have rx : ∀ j, g.1 x j = U.1 x j := fun j => p3 x j (by omega) (by omega)
  refine ⟨p4, fun j h2 h9 => ?_, fun i hi => ?_, fun i hi => ?_, fun b j h1 h2 h3 => ?_⟩
  · have : j = 2 ∨ j = 3 ∨ j = 4 := by omega
    rcases this with rfl | rfl | rfl
    all_goals simp (disch := omega) only [sI_nj, sI_at, rx]
  · simp (disch := omega) only [sI_ne]; exact p1 i hi
  · simp (disch := omega) only [sI_ne]; exact p2 i hi
  · simp (disch := omega) only [sI_ne]; exact p3 b j h2 h3
theorem ln_all2 : (ln (2 + 1) = 8 ∧ ln (2 + 2) = 12) ∧ (∀ t, t < 8 → ln (2 + 3 + 5 * t + 2) = 12 ∧ ln (2 + 3 + 5 * t + 4) = 12) ∧ (∀ m, m < 12 → ln (2 + 43 + 5 * m + 2) = 12 ∧ ln (2 + 43 + 5 * m + 4) = 12) := by decide +kernel
theorem ln_all105 : (ln (105 + 1) = 8 ∧ ln (105 + 2) = 12) ∧ (∀ t, t < 8 → ln (105 + 3 + 5 * t + 2) = 12 ∧ ln (105 + 3 + 5 * t + 4) = 12) ∧ (∀ m, m < 12 → ln (105 + 43 + 5 * m + 2) = 12 ∧ ln (105 + 43 + 5 * m + 4) = 12) := by decide +kernel
theorem ln_all {A : Nat} (h : A = 2 ∨ A = 105) : (ln (A + 1) = 8 ∧ ln (A + 2) = 12) ∧ (∀ t, t < 8 → ln (A + 3 + 5 * t + 2) = 12 ∧ ln (A + 3 + 5 * t + 4) = 12) ∧ (∀ m, m < 12 → ln (A + 43 + 5 * m + 2) = 12 ∧ ln (A + 43 + 5 * m + 4) = 12) := by
  rcases h with rfl | rfl
  · exact ln_all2
  · exact ln_all105
/-- the first p talks and q meanings of the store at B stand at A -/
def zC (A B : Nat) (U V : sU) (p q : Nat) : Prop := (∀ t, t < p → (∀ j, 2 ≤ j → j ≤ 9 → V.1 (A + 3 + 5 * t) j = U.1 (B + 3 + 5 * t) j) ∧ (∀ i, i < 12 → V.1 (A + 5 + 5 * t) i = U.1 (B + 5 + 5 * t) i) ∧ ∀ i, i < 12 → V.1 (A + 7 + 5 * t) i = U.1 (B + 7 + 5 * t) i) ∧ (∀ m, m < q → (∀ j, 2 ≤ j → j ≤ 4 → V.1 (A + 43 + 5 * m) j = U.1 (B + 43 + 5 * m) j) ∧ (∀ i, i < 12 → V.1 (A + 45 + 5 * m) i = U.1 (B + 45 + 5 * m) i) ∧ ∀ i, i < 12 → V.1 (A + 47 + 5 * m) i = U.1 (B + 47 + 5 * m) i) ∧ V.2 = U.2 ∧ ∀ b j, ¬ (A ≤ b ∧ b < A + 103) → V.1 b j = U.1 b j
theorem scopy {A B : Nat} {U : sU} (hAB : (A = 105 ∧ B = 2) ∨ (A = 2 ∧ B = 105)) (h7 : ∀ t, t < 8 → U.1 (B + 3 + 5 * t) 7 = 0 ∨ U.1 (B + 3 + 5 * t) 7 = 1) : ∃ V, f_97 A B U = some V ∧ zC A B U V 8 12 ∧ V.1 A 2 = U.1 B 2 ∧ V.1 A 3 = U.1 B 3 := by
  obtain ⟨⟨a8, a12⟩, at', am⟩ := ln_all (A := A) (by omega)
  obtain ⟨⟨b8, b12⟩, bt, bm⟩ := ln_all (A := B) (by omega)
  have e8 : (Int32.ofNat 8).toInt = 8 := rfl
  have e12 : (Int32.ofNat 12).toInt = 12 := rfl
  have second : ∀ W, zC A B U W 8 0 → ∃ V, f_97_43 FU A B 0 W = some V ∧ zC A B U V 8 12 ∧ V.1 A 2 = U.1 B 2 ∧ V.1 A 3 = U.1 B 3 := by
    intro W hW
    refine loop_ex (fun f (z : Int32 × sU) => f_97_43 f A B z.1 z.2) (fun k z => z.1 = Int32.ofNat k ∧ zC A B U z.2 8 k) (fun o => ∃ V, o = some V ∧ zC A B U V 8 12 ∧ V.1 A 2 = U.1 B 2 ∧ V.1 A 3 = U.1 B 3) 12 ?_ ?_ 12 0 FU (0, W) (by omega) (by unfold FU; omega) ⟨rfl, hW⟩
    · rintro k ⟨c, Z⟩ f hk ⟨rfl, z1, z2, z3, z4⟩
      dsimp only at z1 z2 z3 z4 ⊢
      refine Or.inr ?_
      obtain ⟨g1, g2⟩ := am k hk
      obtain ⟨g3, g4⟩ := bm k hk
      obtain ⟨m1, m2, m3, m4, m5⟩ := mcopy (a := A + 43 + 5 * k) (x := B + 43 + 5 * k) (U := Z) (by omega) g1 g2 g3 g4
      have r1 : rfA (A + 2) 13 k = A + 43 + 5 * k := by show A + 2 + 41 + 5 * k = _; omega
      have r2 : rfA (B + 2) 13 k = B + 43 + 5 * k := by show B + 2 + 41 + 5 * k = _; omega
      rw [f_97_43, if_neg (by rw [a12, i32_le, e12, ofNat_int (by omega)]; omega), if_neg (by rw [b12, i32_le, e12, ofNat_int (by omega)]; omega), if_pos (by rw [a12]; exact ib_ofNat (by omega) hk), if_pos (by rw [b12]; exact ib_ofNat (by omega) hk), ofNat_clamp (by omega), r1, r2, ofNat_succ]
      refine ⟨(Int32.ofNat (k + 1), f_33 (A + 43 + 5 * k) (B + 43 + 5 * k) Z), ⟨rfl, fun t ht => ?_, fun m hm => ?_, m1.trans z3, fun b j hb => ?_⟩, rfl⟩
      · obtain ⟨y1, y2, y3⟩ := z1 t ht
        dsimp only
        exact ⟨fun j h1 h2 => by rw [m5 _ _ (by omega) (by omega) (by omega)]; exact y1 j h1 h2, fun i hi => by rw [m5 _ _ (by omega) (by omega) (by omega)]; exact y2 i hi, fun i hi => by rw [m5 _ _ (by omega) (by omega) (by omega)]; exact y3 i hi⟩
      · dsimp only
        by_cases e : m = k
        · subst e
          refine ⟨fun j h1 h2 => ?_, fun i hi => ?_, fun i hi => ?_⟩
          · rw [m2 j h1 h2]; exact z4 _ _ (by omega)
          · rw [show A + 45 + 5 * m = A + 43 + 5 * m + 2 by omega, m3 i hi, z4 _ _ (by omega), show B + 43 + 5 * m + 2 = B + 45 + 5 * m by omega]
          · rw [show A + 47 + 5 * m = A + 43 + 5 * m + 4 by omega, m4 i hi, z4 _ _ (by omega), show B + 43 + 5 * m + 4 = B + 47 + 5 * m by omega]
        · obtain ⟨y1, y2, y3⟩ := z2 m (by omega)
          exact ⟨fun j h1 h2 => by rw [m5 _ _ (by omega) (by omega) (by omega)]; exact y1 j h1 h2, fun i hi => by rw [m5 _ _ (by omega) (by omega) (by omega)]; exact y2 i hi, fun i hi => by rw [m5 _ _ (by omega) (by omega) (by omega)]; exact y3 i hi⟩
      · dsimp only
        rw [m5 _ _ (by omega) (by omega) (by omega)]
        exact z4 b j hb
    · rintro ⟨c, Z⟩ f ⟨rfl, z1, z2, z3, z4⟩
      dsimp only at z1 z2 z3 z4 ⊢
      rw [f_97_43, if_pos (by rw [a12, i32_le]; exact Int.le_refl _)]
      refine ⟨_, rfl, ⟨fun t ht => ?_, fun m hm => ?_, z3, fun b j hb => ?_⟩, ?_, ?_⟩
      · obtain ⟨y1, y2, y3⟩ := z1 t ht
        exact ⟨fun j h1 h2 => by rw [sI_ne (by omega), sI_ne (by omega)]; exact y1 j h1 h2, fun i hi => by rw [sI_ne (by omega), sI_ne (by omega)]; exact y2 i hi, fun i hi => by rw [sI_ne (by omega), sI_ne (by omega)]; exact y3 i hi⟩
      · obtain ⟨y1, y2, y3⟩ := z2 m hm
        exact ⟨fun j h1 h2 => by rw [sI_ne (by omega), sI_ne (by omega)]; exact y1 j h1 h2, fun i hi => by rw [sI_ne (by omega), sI_ne (by omega)]; exact y2 i hi, fun i hi => by rw [sI_ne (by omega), sI_ne (by omega)]; exact y3 i hi⟩
      · rw [sI_ne (by omega), sI_ne (by omega)]; exact z4 b j hb
      · rw [sI_nj (by omega), sI_at]; exact z4 _ _ (by omega)
      · rw [sI_at, sI_ne (by omega)]; exact z4 _ _ (by omega)
  unfold f_97
  refine loop_ex (fun f (z : Int32 × sU) => f_97_2 f A B z.1 z.2) (fun k z => z.1 = Int32.ofNat k ∧ zC A B U z.2 k 0) (fun o => ∃ V, o = some V ∧ zC A B U V 8 12 ∧ V.1 A 2 = U.1 B 2 ∧ V.1 A 3 = U.1 B 3) 8 ?_ ?_ 8 0 FU (0, U) (by omega) (by unfold FU; omega) ⟨rfl, fun t ht => by omega, fun m hm => by omega, rfl, fun _ _ _ => rfl⟩
  · rintro k ⟨c, Z⟩ f hk ⟨rfl, z1, z2, z3, z4⟩
    dsimp only at z1 z2 z3 z4 ⊢
    refine Or.inr ?_
    obtain ⟨g1, g2⟩ := at' k hk
    obtain ⟨g3, g4⟩ := bt k hk
    obtain ⟨W, m0, m1, m2, m3, m4, m5⟩ := tcopy (a := A + 3 + 5 * k) (x := B + 3 + 5 * k) (U := Z) (by omega) g1 g2 g3 g4 (by rw [z4 _ _ (by omega)]; exact h7 k hk)
    have r1 : rfA (A + 1) 15 k = A + 3 + 5 * k := by show A + 1 + 2 + 5 * k = _; omega
    have r2 : rfA (B + 1) 15 k = B + 3 + 5 * k := by show B + 1 + 2 + 5 * k = _; omega
    rw [f_97_2, if_neg (by rw [a8, i32_le, e8, ofNat_int (by omega)]; omega), if_neg (by rw [b8, i32_le, e8, ofNat_int (by omega)]; omega), if_pos (by rw [a8]; exact ib_ofNat (by omega) hk), if_pos (by rw [b8]; exact ib_ofNat (by omega) hk), ofNat_clamp (by omega), r1, r2, m0, Option.bind_some, ofNat_succ]
    refine ⟨(Int32.ofNat (k + 1), W), ⟨rfl, fun t ht => ?_, fun m hm => by omega, m1.trans z3, fun b j hb => ?_⟩, rfl⟩
    · dsimp only
      by_cases e : t = k
      · subst e
        refine ⟨fun j h1 h2 => ?_, fun i hi => ?_, fun i hi => ?_⟩
        · rw [m2 j h1 h2]; exact z4 _ _ (by omega)
        · rw [show A + 5 + 5 * t = A + 3 + 5 * t + 2 by omega, m3 i hi, z4 _ _ (by omega), show B + 3 + 5 * t + 2 = B + 5 + 5 * t by omega]
        · rw [show A + 7 + 5 * t = A + 3 + 5 * t + 4 by omega, m4 i hi, z4 _ _ (by omega), show B + 3 + 5 * t + 4 = B + 7 + 5 * t by omega]
      · obtain ⟨y1, y2, y3⟩ := z1 t (by omega)
        exact ⟨fun j h1 h2 => by rw [m5 _ _ (by omega) (by omega) (by omega)]; exact y1 j h1 h2, fun i hi => by rw [m5 _ _ (by omega) (by omega) (by omega)]; exact y2 i hi, fun i hi => by rw [m5 _ _ (by omega) (by omega) (by omega)]; exact y3 i hi⟩
    · dsimp only
      rw [m5 _ _ (by omega) (by omega) (by omega)]
      exact z4 b j hb
  · rintro ⟨c, Z⟩ f ⟨rfl, hz⟩
    dsimp only at hz ⊢
    rw [f_97_2, if_pos (by rw [a8, i32_le]; exact Int.le_refl _)]
    exact second Z hz
