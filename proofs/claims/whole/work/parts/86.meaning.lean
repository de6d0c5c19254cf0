/-! meaning: what is made on both sides -/
theorem begin_c {U : sU} {m : Nat} {x k cl : Int32} (hm : m < 12) : (∀ i, i < 12 → (f_30 (45 + 5 * m) x k cl U).1 (47 + 5 * m) i = 0) ∧ (∀ i, i < 12 → (f_30 (45 + 5 * m) x k cl U).1 (49 + 5 * m) i = 0) ∧ (f_30 (45 + 5 * m) x k cl U).1 (45 + 5 * m) 2 = k ∧ (f_30 (45 + 5 * m) x k cl U).1 (45 + 5 * m) 3 = x ∧ (f_30 (45 + 5 * m) x k cl U).1 (45 + 5 * m) 4 = cl ∧ (∀ a j, a ≠ 45 + 5 * m → a ≠ 47 + 5 * m → a ≠ 49 + 5 * m → (f_30 (45 + 5 * m) x k cl U).1 a j = U.1 a j) ∧ (f_30 (45 + 5 * m) x k cl U).2 = U.2 := by
  obtain ⟨l1, l2⟩ := ln_mg m hm
  have c : ∀ (b : Nat) (Y : sU) (a j : Nat), (iclr b Y).1 a j = if a = b + 1 ∧ j < ln (b + 1) then 0 else Y.1 a j := fun b Y a j => rfl
  unfold f_30
  refine ⟨fun i hi => ?_, fun i hi => ?_, ?_, ?_, ?_, fun a j h1 h2 h3 => ?_, rfl⟩
  · rw [sI_ne (by omega), sI_ne (by omega), sI_ne (by omega), c, if_neg (by omega), c, if_pos ⟨by omega, by rw [l1]; exact hi⟩]
  · rw [sI_ne (by omega), sI_ne (by omega), sI_ne (by omega), c, if_pos ⟨by omega, by rw [l2]; exact hi⟩]
  · rw [sI_nj (by omega), sI_at]
  · rw [sI_nj (by omega), sI_nj (by omega), sI_at]
  · rw [sI_at]
  · rw [sI_ne h1, sI_ne h1, sI_ne h1, c, if_neg (by omega), c, if_neg (by omega)]
theorem row_c {U : sU} {m s n q : Nat} (hm : m < 12) (hs : s < 8) (h3 : U.1 (264 + 2 * s) 3 = Int32.ofNat q) (hq : q ≤ 64) (hn : n ≤ q) (hn12 : n ≤ 12) : ∃ V, f_31 (45 + 5 * m) (264 + 2 * s) (Int32.ofNat n) U = some V ∧ V.2 = U.2 ∧ (∀ i, i < n → V.1 (47 + 5 * m) i = rW U s i) ∧ ∀ a j, a ≠ 47 + 5 * m → V.1 a j = U.1 a j := by
  obtain ⟨l1, l2⟩ := ln_mg m hm
  unfold f_31
  refine loop_ex (fun f (z : Int32 × sU) => f_31_2 f (45 + 5 * m) (264 + 2 * s) (Int32.ofNat n) z.1 z.2) (fun k z => z.1 = Int32.ofNat k ∧ z.2.2 = U.2 ∧ (∀ i, i < k → z.2.1 (47 + 5 * m) i = rW U s i) ∧ ∀ a j, a ≠ 47 + 5 * m → z.2.1 a j = U.1 a j) (fun o => ∃ V, o = some V ∧ V.2 = U.2 ∧ (∀ i, i < n → V.1 (47 + 5 * m) i = rW U s i) ∧ ∀ a j, a ≠ 47 + 5 * m → V.1 a j = U.1 a j) n ?_ ?_ n 0 FU (0, U) (by omega) (by unfold FU; omega) ⟨rfl, rfl, fun i hi => by omega, fun _ _ _ => rfl⟩
  · rintro k ⟨c, Z⟩ f hk ⟨rfl, z1, z2, z3⟩
    dsimp only at z1 z2 z3 ⊢
    refine Or.inr ?_
    have e3 : Z.1 (264 + 2 * s) 3 = Int32.ofNat q := by rw [z3 _ _ (by omega)]; exact h3
    have ew : rW Z s k = rW U s k := by unfold rW; rw [z1]
    rw [f_31_2, if_neg (fun q => by have := (ofNat_le (by omega) (by omega)).mp q; omega), f88_eq hs e3 hq (by omega), ew, iput_k l1 (by omega), ofNat_succ]
    refine ⟨(Int32.ofNat (k + 1), sI Z (45 + 5 * m + 1 + 1) k (rW U s k)), ⟨rfl, z1, fun i hi => ?_, fun a j ha => ?_⟩, rfl⟩
    · dsimp only
      rw [show 47 + 5 * m = 45 + 5 * m + 1 + 1 by omega]
      by_cases e : i = k
      · subst e; rw [sI_at]
      · rw [sI_nj e, show 45 + 5 * m + 1 + 1 = 47 + 5 * m by omega]; exact z2 i (by omega)
    · dsimp only
      rw [sI_ne (by omega)]
      exact z3 a j ha
  · rintro ⟨c, Z⟩ f ⟨rfl, z1, z2, z3⟩
    dsimp only at z1 z2 z3 ⊢
    rw [f_31_2, if_pos ((ofNat_le (by omega) (by omega)).mpr (Nat.le_refl _))]
    exact ⟨Z, rfl, z1, z2, z3⟩
theorem cuts_c {U : sU} {m c n : Nat} (hm : m < 12) (hc : c < 2048) (hn : 1 ≤ n) (hn12 : n ≤ 12) (h0 : U.1 (47 + 5 * m) 0 = 0) : ∃ V, f_32 (45 + 5 * m) (Int32.ofNat c) (Int32.ofNat n) U = some V ∧ V.2 = U.2 ∧ (∀ i, i < n → V.1 (47 + 5 * m) i = Int32.ofNat (zW c i)) ∧ ∀ a j, a ≠ 47 + 5 * m → V.1 a j = U.1 a j := by
  obtain ⟨l1, l2⟩ := ln_mg m hm
  have e1 : (1 : Int32).toInt = 1 := rfl
  unfold f_32
  refine loop_ex (fun f (z : Int32 × sU) => f_32_2 f (45 + 5 * m) (Int32.ofNat c) (Int32.ofNat n) z.1 z.2) (fun k z => z.1 = Int32.ofNat (k + 1) ∧ z.2.2 = U.2 ∧ (∀ i, i < k + 1 → z.2.1 (47 + 5 * m) i = Int32.ofNat (zW c i)) ∧ ∀ a j, a ≠ 47 + 5 * m → z.2.1 a j = U.1 a j) (fun o => ∃ V, o = some V ∧ V.2 = U.2 ∧ (∀ i, i < n → V.1 (47 + 5 * m) i = Int32.ofNat (zW c i)) ∧ ∀ a j, a ≠ 47 + 5 * m → V.1 a j = U.1 a j) (n - 1) ?_ ?_ (n - 1) 0 FU (1, U) (by omega) (by unfold FU; omega) ⟨rfl, rfl, fun i hi => ?_, fun _ _ _ => rfl⟩
  · rintro k ⟨d, Z⟩ f hk ⟨rfl, z1, z2, z3⟩
    dsimp only at z1 z2 z3 ⊢
    refine Or.inr ?_
    have hb := cut_bit (c := c) (t := k + 1) hc (by omega) (by omega)
    have ek : Int32.ofNat (k + 1) - 1 = Int32.ofNat k := by
      apply Int32.toInt_inj.mp
      rw [s32 (by rw [e1, ofNat_int (by omega)]; omega) (by rw [e1, ofNat_int (by omega)]; omega), e1, ofNat_int (by omega), ofNat_int (by omega)]
      omega
    have g : iget (45 + 5 * m + 1) (Int32.ofNat k) Z = Int32.ofNat (zW c k) := by rw [iget_k l1 (by omega), show 45 + 5 * m + 1 + 1 = 47 + 5 * m by omega]; exact z2 k (by omega)
    rw [f_32_2, if_neg (fun q => by have := (ofNat_le (by omega) (by omega)).mp q; omega), hb, ek, g, ofNat_add, iput_k l1 (by omega), ofNat_succ]
    refine ⟨(Int32.ofNat (k + 1 + 1), sI Z (45 + 5 * m + 1 + 1) (k + 1) (Int32.ofNat (zW c k + if c.testBit (k + 1 - 1) = true then 1 else 0))), ⟨rfl, z1, fun i hi => ?_, fun a j ha => ?_⟩, rfl⟩
    · dsimp only
      rw [show 47 + 5 * m = 45 + 5 * m + 1 + 1 by omega]
      by_cases e : i = k + 1
      · subst e; rw [sI_at]; rfl
      · rw [sI_nj e, show 45 + 5 * m + 1 + 1 = 47 + 5 * m by omega]; exact z2 i (by omega)
    · dsimp only
      rw [sI_ne (by omega)]
      exact z3 a j ha
  · rintro ⟨d, Z⟩ f ⟨rfl, z1, z2, z3⟩
    dsimp only at z1 z2 z3 ⊢
    rw [f_32_2, if_pos ((ofNat_le (by omega) (by omega)).mpr (by omega))]
    exact ⟨Z, rfl, z1, fun i hi => z2 i (by omega), z3⟩
  · have : i = 0 := by omega
    subst this
    dsimp only
    rw [h0]
    rfl
/-- the words on the reference's side -/
def mWd (U : sU) (k : Int32) (row : Bool) (s c i : Nat) : Int32 := if row then rW U s i else if k = 4 then Int32.ofNat i else if k = 1 then Int32.ofNat (zW c i) else 0
theorem made_m {U V : sU} {nM s n c : Nat} {x k y more v5 : Int32} {row : Bool} (hv5 : v5 = if row then 1 else 0) (hM : nM < 12) (hn12 : n ≤ 12) (e1 : V.1 280 1 = Int32.ofNat nM) (hy : row = true → y.toInt = s ∧ s < 8) (e286 : row = true → ∀ i, i < 64 → V.2.1 286 (64 * s + i) = U.2.1 (265 + 2 * s) i) (hk1 : row = false → k = 1 → more = Int32.ofNat c ∧ c < 2048) : ∃ Z, f_215_282 x k y more v5 (Int32.ofNat n) V = some (Int32.ofNat nM, Z) ∧ Z.2 = V.2 ∧ Z.1 280 1 = Int32.ofNat (nM + 1) ∧ Z.1 298 nM = x ∧ Z.1 299 nM = k ∧ Z.1 300 nM = (if k = 2 then more else 0) ∧ (∀ i, i < n → Z.1 301 (12 * nM + i) = mWd U k row s c i) ∧ (∀ i, i < 12 → Z.1 302 (12 * nM + i) = 0) ∧ ∀ a j, ¬ (a = 280 ∧ j = 1) → ¬ (298 ≤ a ∧ a ≤ 300 ∧ j = nM) → ¬ ((a = 301 ∨ a = 302) ∧ 12 * nM ≤ j ∧ j < 12 * nM + 12) → Z.1 a j = V.1 a j := by
  have e12 : (12 : Int32).toInt = 12 := rfl
  have e0 : (0 : Int32).toInt = 0 := rfl
  have eM : (Int32.ofNat nM).toInt = nM := ofNat_int (by omega)
  have iM : ib (Int32.ofNat nM) 12 := ib_ofNat (by omega) hM
  have cM : (Int32.ofNat nM).toNatClampNeg = nM := ofNat_clamp (by omega)
  have i144 : ∀ i, i < 12 → ib (12 * Int32.ofNat nM + Int32.ofNat i) 144 ∧ (12 * Int32.ofNat nM + Int32.ofNat i).toNatClampNeg = 12 * nM + i := by
    intro i hi
    obtain ⟨m1, m2⟩ := mul12 (s := Int32.ofNat nM) (i := Int32.ofNat i) eM (ofNat_int (by omega)) hM hi
    exact ⟨ib_int.mpr (by omega), m2⟩
  -- the words
  have words : ∀ Y : sU, Y.2 = V.2 → (∀ i, i < 12 → Y.1 301 (12 * nM + i) = 0) → ∃ Z, f_215_395 FU k y more v5 (Int32.ofNat n) (Int32.ofNat nM) 0 0 Y = some (Int32.ofNat nM, Z) ∧ Z.2 = V.2 ∧ (∀ i, i < n → Z.1 301 (12 * nM + i) = mWd U k row s c i) ∧ ∀ a j, ¬ (a = 301 ∧ 12 * nM ≤ j ∧ j < 12 * nM + 12) → Z.1 a j = Y.1 a j := by
    intro Y yL yz
    refine loop_ex (fun f (z : Int32 × Int32 × sU) => f_215_395 f k y more v5 (Int32.ofNat n) (Int32.ofNat nM) z.1 z.2.1 z.2.2) (fun i z => z.2.1 = Int32.ofNat i ∧ (row = false → k = 1 → z.1 = Int32.ofNat (zW c (i - 1))) ∧ z.2.2.2 = V.2 ∧ (∀ i', i' < i → z.2.2.1 301 (12 * nM + i') = mWd U k row s c i') ∧ (∀ i', i ≤ i' → i' < 12 → z.2.2.1 301 (12 * nM + i') = 0) ∧ ∀ a j, ¬ (a = 301 ∧ 12 * nM ≤ j ∧ j < 12 * nM + 12) → z.2.2.1 a j = Y.1 a j) (fun o => ∃ Z, o = some (Int32.ofNat nM, Z) ∧ Z.2 = V.2 ∧ (∀ i, i < n → Z.1 301 (12 * nM + i) = mWd U k row s c i) ∧ ∀ a j, ¬ (a = 301 ∧ 12 * nM ≤ j ∧ j < 12 * nM + 12) → Z.1 a j = Y.1 a j) n ?_ ?_ n 0 FU (0, 0, Y) (by omega) (by unfold FU; omega) ⟨rfl, fun _ _ => rfl, yL, fun i hi => by omega, fun i _ hi => yz i hi, fun _ _ _ => rfl⟩
    · rintro i ⟨w, d, Z⟩ f hi ⟨rfl, hw, z1, z2, z3, z4⟩
      dsimp only at hw z1 z2 z3 z4 ⊢
      refine Or.inr ?_
      obtain ⟨j1, j2⟩ := i144 i (by omega)
      -- writing v
      have wr : ∀ (w' v : Int32), v = mWd U k row s c i → (row = false → k = 1 → w' = Int32.ofNat (zW c i)) → ∃ z' : Int32 × Int32 × sU, (z'.2.1 = Int32.ofNat (i + 1) ∧ (row = false → k = 1 → z'.1 = Int32.ofNat (zW c (i + 1 - 1))) ∧ z'.2.2.2 = V.2 ∧ (∀ i', i' < i + 1 → z'.2.2.1 301 (12 * nM + i') = mWd U k row s c i') ∧ (∀ i', i + 1 ≤ i' → i' < 12 → z'.2.2.1 301 (12 * nM + i') = 0) ∧ ∀ a j, ¬ (a = 301 ∧ 12 * nM ≤ j ∧ j < 12 * nM + 12) → z'.2.2.1 a j = Y.1 a j) ∧ f_215_395 f k y more v5 (Int32.ofNat n) (Int32.ofNat nM) w' (Int32.ofNat i + 1) (sI Z 301 (12 * nM + i) v) = f_215_395 f k y more v5 (Int32.ofNat n) (Int32.ofNat nM) z'.1 z'.2.1 z'.2.2 := by
        intro w' v hv hw'
        refine ⟨(w', Int32.ofNat (i + 1), sI Z 301 (12 * nM + i) v), ⟨rfl, hw', z1, fun i' hi' => ?_, fun i' h1 h2 => ?_, fun a j ha => ?_⟩, by rw [ofNat_succ]⟩
        · dsimp only
          by_cases e : i' = i
          · subst e; rw [sI_at]; exact hv
          · rw [sI_nj (by omega)]; exact z2 i' (by omega)
        · dsimp only
          rw [sI_nj (by omega)]; exact z3 i' (by omega) h2
        · dsimp only
          by_cases e : a = 301
          · subst e; rw [sI_nj (by omega)]; exact z4 _ _ (by omega)
          · rw [sI_ne e]; exact z4 a j ha
      rw [f_215_395, if_neg (fun q => by have := (ofNat_le (by omega) (by omega)).mp q; omega)]
      simp only [j2]
      rw [hv5]
      cases hr : row with
      | true =>
        obtain ⟨hy1, hy2⟩ := hy hr
        have m := mul64 (s := y) (i := Int32.ofNat i) hy1 (ofNat_int (by omega)) hy2 (by omega)
        have mc : (64 * y + Int32.ofNat i).toNatClampNeg = 64 * s + i := by rw [clamp_int, m]; omega
        rw [if_neg (by decide), if_pos (ib_int.mpr (by omega)), if_pos j1, mc]
        have := wr w ((Z.2.1 286 (64 * s + i)).toInt32) (by rw [z1, e286 hr i (by omega)]; unfold mWd; rw [hr, if_pos rfl]; rfl) (fun q => by rw [hr] at q; cases q)
        rw [hv5, hr] at this
        exact this
      | false =>
        rw [if_pos (by rfl)]
        have wr' := wr
        rw [hv5, hr] at wr'
        by_cases k4 : k = 4
        · rw [if_pos k4, if_pos j1]
          exact wr' w (Int32.ofNat i) (by unfold mWd; rw [if_neg Bool.false_ne_true, if_pos k4]) (fun _ q => by rw [k4] at q; exact absurd q (by decide))
        · rw [if_neg k4]
          by_cases k1 : k = 1
          · rw [if_pos k1]
            obtain ⟨hc1, hc2⟩ := hk1 hr k1
            have hw1 := hw hr k1
            have ev : ∀ v : Nat, v = zW c i → Int32.ofNat v = mWd U k false s c i := fun v hv => by unfold mWd; rw [if_neg Bool.false_ne_true, if_neg k4, if_pos k1, hv]
            by_cases i0 : i = 0
            · subst i0
              rw [if_pos (by rw [i32_le, e0, ofNat_int (by omega)]; omega), if_pos j1, hw1]
              exact wr' _ _ (ev _ rfl) (fun _ _ => rfl)
            · obtain ⟨u, rfl⟩ : ∃ u, i = u + 1 := ⟨i - 1, by omega⟩
              have hb := cut_bit (c := c) (t := u + 1) hc2 (by omega) (by omega)
              rw [show u + 1 - 1 = u from rfl] at hb hw1
              rw [if_neg (by rw [i32_le, e0, ofNat_int (by omega)]; omega), hc1, hb, hw1]
              have ez : zW c (u + 1) = zW c u + (if c.testBit u then 1 else 0) := rfl
              have wr'' := wr'
              rw [hc1] at wr''
              by_cases tb : c.testBit u = true
              · rw [if_pos (show Int32.ofNat (if c.testBit u = true then 1 else 0) = 1 by rw [if_pos tb]; rfl), if_pos j1, ofNat_succ]
                exact wr'' _ _ (ev _ (by rw [ez, if_pos tb])) (fun _ _ => by rw [ez, if_pos tb])
              · rw [if_neg (show ¬ Int32.ofNat (if c.testBit u = true then 1 else 0) = 1 by rw [if_neg tb]; decide), if_pos j1]
                exact wr'' _ _ (ev _ (by rw [ez, if_neg tb, Nat.add_zero])) (fun _ _ => by rw [ez, if_neg tb, Nat.add_zero])
          · rw [if_neg k1, ofNat_succ]
            refine ⟨(w, Int32.ofNat (i + 1), Z), ⟨rfl, fun _ q => absurd q k1, z1, fun i' hi' => ?_, fun i' h1 h2 => z3 i' (by omega) h2, z4⟩, rfl⟩
            by_cases e : i' = i
            · subst e
              rw [z3 i' (Nat.le_refl _) (by omega)]
              unfold mWd
              rw [if_neg Bool.false_ne_true, if_neg k4, if_neg k1]
            · have := z2 i' (by omega)
              rw [hr] at this
              exact this
    · rintro ⟨w, d, Z⟩ f ⟨rfl, hw, z1, z2, z3, z4⟩
      dsimp only at hw z1 z2 z3 z4 ⊢
      rw [f_215_395, if_pos ((ofNat_le (by omega) (by omega)).mpr (Nat.le_refl _))]
      exact ⟨Z, rfl, z1, z2, z4⟩
  -- clearing, then the words
  have clear : ∀ Y : sU, Y.2 = V.2 → ∃ Z, f_215_351 FU k y more v5 (Int32.ofNat n) (Int32.ofNat nM) 0 0 Y = some (Int32.ofNat nM, Z) ∧ Z.2 = V.2 ∧ (∀ i, i < n → Z.1 301 (12 * nM + i) = mWd U k row s c i) ∧ (∀ i, i < 12 → Z.1 302 (12 * nM + i) = 0) ∧ ∀ a j, ¬ ((a = 301 ∨ a = 302) ∧ 12 * nM ≤ j ∧ j < 12 * nM + 12) → Z.1 a j = Y.1 a j := by
    intro Y yL
    refine loop_ex (fun f (z : Int32 × sU) => f_215_351 f k y more v5 (Int32.ofNat n) (Int32.ofNat nM) 0 z.1 z.2) (fun i z => z.1 = Int32.ofNat i ∧ z.2.2 = V.2 ∧ (∀ i', i' < i → z.2.1 301 (12 * nM + i') = 0 ∧ z.2.1 302 (12 * nM + i') = 0) ∧ ∀ a j, ¬ ((a = 301 ∨ a = 302) ∧ 12 * nM ≤ j ∧ j < 12 * nM + 12) → z.2.1 a j = Y.1 a j) (fun o => ∃ Z, o = some (Int32.ofNat nM, Z) ∧ Z.2 = V.2 ∧ (∀ i, i < n → Z.1 301 (12 * nM + i) = mWd U k row s c i) ∧ (∀ i, i < 12 → Z.1 302 (12 * nM + i) = 0) ∧ ∀ a j, ¬ ((a = 301 ∨ a = 302) ∧ 12 * nM ≤ j ∧ j < 12 * nM + 12) → Z.1 a j = Y.1 a j) 12 ?_ ?_ 12 0 FU (0, Y) (by omega) (by unfold FU; omega) ⟨rfl, yL, fun i hi => by omega, fun _ _ _ => rfl⟩
    · rintro i ⟨d, Z⟩ f hi ⟨rfl, z1, z2, z3⟩
      dsimp only at z1 z2 z3 ⊢
      refine Or.inr ?_
      obtain ⟨j1, j2⟩ := i144 i hi
      rw [f_215_351, if_neg (by rw [i32_le, e12, ofNat_int (by omega)]; omega), if_pos j1, if_pos j1, j2, ofNat_succ]
      refine ⟨(Int32.ofNat (i + 1), sI (sI Z 302 (12 * nM + i) 0) 301 (12 * nM + i) 0), ⟨rfl, z1, fun i' hi' => ?_, fun a j ha => ?_⟩, rfl⟩
      · dsimp only
        by_cases e : i' = i
        · subst e
          rw [sI_at, sI_ne (by omega), sI_at]
          exact ⟨rfl, rfl⟩
        · rw [sI_nj (by omega), sI_ne (by omega), sI_ne (by omega), sI_nj (by omega)]
          exact z2 i' (by omega)
      · dsimp only
        by_cases a1 : a = 301
        · subst a1; rw [sI_nj (by omega), sI_ne (by omega)]; exact z3 _ _ ha
        · rw [sI_ne a1]
          by_cases a2 : a = 302
          · subst a2; rw [sI_nj (by omega)]; exact z3 _ _ ha
          · rw [sI_ne a2]; exact z3 _ _ ha
    · rintro ⟨d, Z⟩ f ⟨rfl, z1, z2, z3⟩
      dsimp only at z1 z2 z3 ⊢
      rw [f_215_351, if_pos (by rw [i32_le, e12, ofNat_int (by omega)]; omega)]
      obtain ⟨X, x1, x2, x3, x4⟩ := words Z z1 (fun i hi => (z2 i hi).1)
      exact ⟨X, x1, x2, x3, fun i hi => by rw [x4 _ _ (by omega)]; exact (z2 i hi).2, fun a j ha => by rw [x4 _ _ (by omega)]; exact z3 a j ha⟩
  unfold f_215_282
  rw [e1, if_neg (by rw [i32_eq, e12, eM]; omega)]
  simp only [if_pos iM, cM]
  have both : ∀ v : Int32, v = (if k = 2 then more else 0) → ∃ Z, f_215_351 FU k y more v5 (Int32.ofNat n) (Int32.ofNat nM) 0 0 (sI (sI (sI (sI V 280 1 (Int32.ofNat nM + 1)) 298 nM x) 299 nM k) 300 nM v) = some (Int32.ofNat nM, Z) ∧ Z.2 = V.2 ∧ Z.1 280 1 = Int32.ofNat (nM + 1) ∧ Z.1 298 nM = x ∧ Z.1 299 nM = k ∧ Z.1 300 nM = (if k = 2 then more else 0) ∧ (∀ i, i < n → Z.1 301 (12 * nM + i) = mWd U k row s c i) ∧ (∀ i, i < 12 → Z.1 302 (12 * nM + i) = 0) ∧ ∀ a j, ¬ (a = 280 ∧ j = 1) → ¬ (298 ≤ a ∧ a ≤ 300 ∧ j = nM) → ¬ ((a = 301 ∨ a = 302) ∧ 12 * nM ≤ j ∧ j < 12 * nM + 12) → Z.1 a j = V.1 a j := by
    intro v hv
    obtain ⟨Z, z1, z2, z3, z4, z5⟩ := clear (sI (sI (sI (sI V 280 1 (Int32.ofNat nM + 1)) 298 nM x) 299 nM k) 300 nM v) rfl
    refine ⟨Z, z1, z2, ?_, ?_, ?_, ?_, z3, z4, fun a j h1 h2 h3 => ?_⟩
    · rw [z5 _ _ (by omega), sI_ne (by omega), sI_ne (by omega), sI_ne (by omega), sI_at, ofNat_succ]
    · rw [z5 _ _ (by omega), sI_ne (by omega), sI_ne (by omega), sI_at]
    · rw [z5 _ _ (by omega), sI_ne (by omega), sI_at]
    · rw [z5 _ _ (by omega), sI_at, hv]
    · rw [z5 _ _ h3]
      have g : ∀ (Y : sU) (b i : Nat) (w : Int32), ¬ (a = b ∧ j = i) → (sI Y b i w).1 a j = Y.1 a j := by
        intro Y b i w hne
        by_cases e : a = b
        · subst e; rw [sI_nj (fun q => hne ⟨rfl, q⟩)]
        · rw [sI_ne e]
      rw [g _ _ _ _ (by omega), g _ _ _ _ (by omega), g _ _ _ _ (by omega), g _ _ _ _ (by omega)]
  by_cases k2 : k = 2
  · rw [if_pos k2]
    exact both more (by rw [if_pos k2])
  · rw [if_neg k2]
    exact both 0 (by rw [if_neg k2])
