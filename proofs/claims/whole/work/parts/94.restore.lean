/-! restore: both sides -/
theorem st_restore {U : sU} (h : Inv U) : Two (f_155 U) f_280 := by
  have h0 := h
  obtain ⟨nT, nM, h⟩ := h
  obtain ⟨r1, r2, r3⟩ := h.2.2.2.2.2
  rcases r1 with ⟨a1, a2⟩ | ⟨a1, pT, pM, hk⟩
  · refine ref_to h0 (w := 6) (by decide) (by unfold f_155; rw [if_pos a1]) ?_
    have e : (f_157 6 U).2.1 280 54 = -1 := (f157_1 (by decide) (by decide)).trans a2
    unfold f_280
    rw [if_pos e]
  obtain ⟨V, v1, ⟨y1, y2, y3, y4⟩, v2, v3⟩ := scopy (A := 2) (B := 105) (U := U) (Or.inr ⟨rfl, rfl⟩) (fun t ht => by
    have := r3 t ht
    rw [show 105 + 3 + 5 * t = 108 + 5 * t by omega]; exact this)
  obtain ⟨W, w1, w2, w3, w4⟩ := drop_c (V := V)
  obtain ⟨o1, o2, o3, o4⟩ := zL_ok
  have p12 := hk.1.2.2.2.1
  have p8 := hk.1.2.2.1
  have n3 : V.1 2 3 = Int32.ofNat pM := v3.trans hk.1.2.1
  have W280 : ∀ j, W.1 280 j = U.1 280 j := fun j => by rw [w3 _ _ (by omega)]; exact y4 _ _ (by omega)
  have g : ∀ Y : sU, Y = sI (sI W 280 0 (W.1 280 54)) 280 1 ((sI W 280 0 (W.1 280 54)).1 280 55) → ∃ X, f_278 1 Y = some X ∧ ∃ Z, f_280_38 FU 0 X = some (Int32.ofNat pM, Z) ∧ InvN pT pM Z := by
    intro Y hY
    obtain ⟨X, x1, x2, x3, x4⟩ := zcp_out zL 0 Y o1 o2 (by omega)
    obtain ⟨Z, z1, z2, z3, z4⟩ := drop_m (V := X)
    have yb : ∀ b j, b ≠ 280 → Y.1 b j = W.1 b j := fun b j h1 => by rw [hY, sI_ne h1, sI_ne h1]
    have y280 : ∀ j, j ≠ 0 → j ≠ 1 → Y.1 280 j = U.1 280 j := fun j h1 h2 => by rw [hY, sI_nj h2, sI_nj h1]; exact W280 j
    have y0 : Y.1 280 0 = Int32.ofNat pT := by rw [hY, sI_nj (by omega), sI_at, W280]; exact hk.2.1
    have y1' : Y.1 280 1 = Int32.ofNat pM := by rw [hY, sI_at, sI_nj (by omega), W280]; exact hk.2.2
    have xb : ∀ b j, ¬ (288 ≤ b ∧ b ≤ 302) → X.1 b j = Y.1 b j := fun b j h1 => x4 b j (fun p hp q => h1 (by have := o4 p hp; omega))
    have ZX : ∀ b j, b ≠ 282 → ¬ (288 ≤ b ∧ b ≤ 302) → Z.1 b j = Y.1 b j := fun b j h1 h2 => by rw [z3 b j h1, xb b j h2]
    have E : ∀ b j, ¬ (2 ≤ b ∧ b < 105) → ¬ (264 ≤ b ∧ b < 280) → b ≠ 280 → b ≠ 282 → ¬ (288 ≤ b ∧ b ≤ 302) → Z.1 b j = U.1 b j := fun b j h1 h2 h3 h4 h5 => by
      rw [ZX b j h4 h5, yb b j h3, w3 b j h2]; exact y4 b j (by omega)
    have Zs : ∀ b j, 2 ≤ b → b < 105 → Z.1 b j = V.1 b j := fun b j h1 h2 => by rw [ZX b j (by omega) (by omega), yb b j (by omega), w3 b j (by omega)]
    have Z280 : ∀ j, j ≠ 0 → j ≠ 1 → Z.1 280 j = U.1 280 j := fun j h1 h2 => by rw [ZX _ _ (by omega) (by omega)]; exact y280 j h1 h2
    have zl : Z.2 = U.2 := by rw [z2, x2, hY]; exact w2.trans y3
    have x1n : X.1 280 1 = Int32.ofNat pM := by rw [xb _ _ (by omega)]; exact y1'
    refine ⟨X, (f278_eq 1 Y).trans x1, Z, by rw [z1, x1n], ⟨?_, ?_, ?_⟩, ?_, ?_, ?_, ⟨?_, ?_, ?_⟩, ?_, ?_, ?_⟩
    · obtain ⟨s0, s1, s2, s3, s4, s5, s6, s7, s8, s9, s10, s11, s12, s13, s14, _⟩ := x3
      have Y3 : ∀ j, Y.1 313 j = U.1 313 j := fun j => by rw [yb _ _ (by omega), w3 _ _ (by omega)]; exact y4 _ _ (by omega)
      refine rStore_move (A := 2) (B := 105) (U := U) (V := Z) ?_ ?_ ?_ ?_ ?_ ?_ ?_ ?_ ?_ ?_ ?_ ?_ hk.1
      · rw [Zs _ _ (by omega) (by omega)]; exact v2
      · rw [Zs _ _ (by omega) (by omega)]; exact v3
      · intro t ht
        obtain ⟨a1, a2, a3⟩ := y1 t ht
        exact ⟨fun j h1 h2 => by rw [Zs _ _ (by omega) (by omega)]; exact a1 j h1 h2, fun i hi => by rw [Zs _ _ (by omega) (by omega)]; exact a2 i hi, fun i hi => by rw [Zs _ _ (by omega) (by omega)]; exact a3 i hi⟩
      · intro m hm
        obtain ⟨a1, a2, a3⟩ := y2 m hm
        exact ⟨fun j h1 h2 => by rw [Zs _ _ (by omega) (by omega)]; exact a1 j h1 h2, fun i hi => by rw [Zs _ _ (by omega) (by omega)]; exact a2 i hi, fun i hi => by rw [Zs _ _ (by omega) (by omega)]; exact a3 i hi⟩
      · intro f t hf ht
        refine fld8 (P := fun f => Z.1 (288 + f) t = U.1 313 (8 * f + t)) ?_ ?_ ?_ ?_ ?_ ?_ ?_ ?_ f hf
        · exact (z3 _ _ (by omega)).trans ((s0 t ht).trans (Y3 _))
        · exact (z3 _ _ (by omega)).trans ((s1 t ht).trans (Y3 _))
        · exact (z3 _ _ (by omega)).trans ((s2 t ht).trans (Y3 _))
        · exact (z3 _ _ (by omega)).trans ((s3 t ht).trans (Y3 _))
        · exact (z3 _ _ (by omega)).trans ((s4 t ht).trans (Y3 _))
        · exact (z3 _ _ (by omega)).trans ((s5 t ht).trans (Y3 _))
        · exact (z3 _ _ (by omega)).trans ((s6 t ht).trans (Y3 _))
        · exact (z3 _ _ (by omega)).trans ((s7 t ht).trans (Y3 _))
      · intro i hi; exact (z3 _ _ (by omega)).trans ((s8 i hi).trans (Y3 _))
      · intro i hi; exact (z3 _ _ (by omega)).trans ((s9 i hi).trans (Y3 _))
      · intro i hi; exact (z3 _ _ (by omega)).trans ((s10 i hi).trans (Y3 _))
      · intro i hi; exact (z3 _ _ (by omega)).trans ((s11 i hi).trans (Y3 _))
      · intro i hi; exact (z3 _ _ (by omega)).trans ((s12 i hi).trans (Y3 _))
      · intro i hi; exact (z3 _ _ (by omega)).trans ((s13 i hi).trans (Y3 _))
      · intro i hi; exact (z3 _ _ (by omega)).trans ((s14 i hi).trans (Y3 _))
    · rw [ZX _ _ (by omega) (by omega)]; exact y0
    · rw [ZX _ _ (by omega) (by omega)]; exact y1'
    · intro s hs
      obtain ⟨g1, g2, g3⟩ := w4 s hs
      have d : ∀ b j, (b = 283 ∨ b = 284 ∨ b = 285) → Z.1 b j = U.1 b j := fun b j hb => E b j (by omega) (by omega) (by omega) (by omega) (by omega)
      have zW : ∀ j, Z.1 (264 + 2 * s) j = W.1 (264 + 2 * s) j := fun j => by rw [ZX _ _ (by omega) (by omega), yb _ _ (by omega)]
      have vU : ∀ j, V.1 (264 + 2 * s) j = U.1 (264 + 2 * s) j := fun j => y4 _ _ (by omega)
      have q := z4 s hs
      have x2' : ∀ b, (b = 282 ∨ b = 285) → X.1 b s = U.1 b s := fun b hb => by rw [xb _ _ (by omega), yb _ _ (by omega), w3 _ _ (by omega)]; exact y4 _ _ (by omega)
      rw [x2' 282 (by omega), x2' 285 (by omega), x1n] at q
      unfold zgone at g1 g2
      rw [n3, vU, vU] at g1 g2
      unfold rShelf
      rcases h.2.1 s hs with ⟨b1, b2, b3⟩ | ⟨b1, b2, o, n, b3, b4, b5, b6, b7, b8, b9⟩ | ⟨b1, b2, b3, m, bm, b4, b5⟩
      · have k := g2 (fun q => by rw [b1] at q; exact absurd q.1 (by decide))
        rw [b2, if_neg (fun q => absurd q.1 (by decide))] at q
        exact Or.inl ⟨by rw [zW, k, vU, b1], q, by rw [zW, k, vU, b3]⟩
      · have k := g2 (fun q => by rw [b1] at q; exact absurd q.1 (by decide))
        rw [b2, if_neg (fun q => absurd q.1 (by decide))] at q
        refine Or.inr (Or.inl ⟨by rw [zW, k, vU, b1], q, o, n, b3, b4, by rw [zW, k, vU, b5], by rw [d _ _ (by omega), b6], by rw [zW, k, vU, b7], by rw [d _ _ (by omega), b8], fun i hi => by rw [zl]; exact b9 i hi⟩)
      · by_cases c : m < pM
        · have k := g2 (fun q => q.2 (by rw [b4, i32_lt, ofNat_int (by omega), ofNat_int (by omega)]; omega))
          rw [if_neg (fun q => q.2 (by rw [b5, i32_lt, ofNat_int (by omega), ofNat_int (by omega)]; omega))] at q
          exact Or.inr (Or.inr ⟨by rw [zW, k, vU, b1], q.trans b2, by rw [zW, k, vU, b3], m, c, by rw [zW, k, vU, b4], by rw [d _ _ (by omega), b5]⟩)
        · have n12 := h.1.1.2.2.2.1
          obtain ⟨k1, k2⟩ := g1 ⟨b1, by rw [b4, i32_lt, ofNat_int (by omega), ofNat_int (by omega)]; omega⟩
          rw [if_pos ⟨b2, by rw [b5, i32_lt, ofNat_int (by omega), ofNat_int (by omega)]; omega⟩] at q
          exact Or.inl ⟨by rw [zW, k1], q, by rw [zW, k2]⟩
    · intro i hi
      rw [E 281 i (by omega) (by omega) (by omega) (by omega) (by omega), E 209 i (by omega) (by omega) (by omega) (by omega) (by omega)]
      exact h.2.2.1 i hi
    · rw [Z280 2 (by omega) (by omega), E 0 5 (by omega) (by omega) (by omega) (by omega) (by omega)]
      exact h.2.2.2.1
    · rw [Z280 53 (by omega) (by omega), E 261 4 (by omega) (by omega) (by omega) (by omega) (by omega)]; exact h.2.2.2.2.1.1
    · rw [E 261 4 (by omega) (by omega) (by omega) (by omega) (by omega)]; exact h.2.2.2.2.1.2.1
    · intro i hi
      rw [E 312 i (by omega) (by omega) (by omega) (by omega) (by omega), E 263 i (by omega) (by omega) (by omega) (by omega) (by omega)]; exact h.2.2.2.2.1.2.2 i hi
    · refine Or.inr ⟨by rw [E 0 3 (by omega) (by omega) (by omega) (by omega) (by omega)]; exact a1, pT, pM, rKept_congr (fun a j q r => E a j (by omega) (by omega) (by omega) (by omega) (by omega)) (fun j => E _ _ (by omega) (by omega) (by omega) (by omega) (by omega)) (Z280 _ (by omega) (by omega)) (Z280 _ (by omega) (by omega)) hk⟩
    · intro t ht
      rw [Zs _ _ (by omega) (by omega), show 5 + 5 * t = 2 + 3 + 5 * t by omega, (y1 t ht).1 7 (by omega) (by omega), show 105 + 3 + 5 * t = 108 + 5 * t by omega]
      exact r3 t ht
    · intro t ht
      rw [E _ _ (by omega) (by omega) (by omega) (by omega) (by omega)]
      exact r3 t ht
  obtain ⟨X, g1, Z, g2, g3⟩ := g _ rfl
  refine ⟨Int32.ofNat pM, W, Z, ?_, ?_, pT, pM, g3⟩
  · unfold f_155
    rw [if_neg (by rw [a1]; decide), v1, Option.bind_some, w1, n3]
  · unfold f_280
    have e54 : ¬ W.1 280 54 = -1 := by
      rw [W280, hk.2.1]
      intro q
      have := congrArg Int32.toInt q
      rw [ofNat_int (by omega)] at this
      have e1 : ((-1) : Int32).toInt = -1 := rfl
      omega
    rw [if_neg e54, g1, Option.bind_some, g2]
