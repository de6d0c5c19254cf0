/-! image and restore: both sides -/
theorem rStore_move {U V : sU} {A B nT nM : Nat} {F G : Nat → Nat → Int32} {X C MT MK ML MW MD Y E NT NK NL NW ND : Nat → Int32} (b2 : V.1 A 2 = U.1 B 2) (b3 : V.1 A 3 = U.1 B 3)
    (ht : ∀ t, t < 8 → (∀ j, 2 ≤ j → j ≤ 9 → V.1 (A + 3 + 5 * t) j = U.1 (B + 3 + 5 * t) j) ∧ (∀ i, i < 12 → V.1 (A + 5 + 5 * t) i = U.1 (B + 5 + 5 * t) i) ∧ ∀ i, i < 12 → V.1 (A + 7 + 5 * t) i = U.1 (B + 7 + 5 * t) i)
    (hm : ∀ m, m < 12 → (∀ j, 2 ≤ j → j ≤ 4 → V.1 (A + 43 + 5 * m) j = U.1 (B + 43 + 5 * m) j) ∧ (∀ i, i < 12 → V.1 (A + 45 + 5 * m) i = U.1 (B + 45 + 5 * m) i) ∧ ∀ i, i < 12 → V.1 (A + 47 + 5 * m) i = U.1 (B + 47 + 5 * m) i)
    (hF : ∀ f t, f < 8 → t < 8 → G f t = F f t) (hX : ∀ i, i < 96 → Y i = X i) (hC : ∀ i, i < 96 → E i = C i) (h1 : ∀ i, i < 12 → NT i = MT i) (h2 : ∀ i, i < 12 → NK i = MK i) (h3 : ∀ i, i < 12 → NL i = ML i) (h4 : ∀ i, i < 144 → NW i = MW i) (h5 : ∀ i, i < 144 → ND i = MD i)
    (h : rStore U B nT nM F X C MT MK ML MW MD) : rStore V A nT nM G Y E NT NK NL NW ND := by
  obtain ⟨c1, c2, c3, c4, kt, km⟩ := h
  refine ⟨b2.trans c1, b3.trans c2, c3, c4, ?_, ?_⟩
  · intro t hlt
    obtain ⟨y1, y2, y3⟩ := ht t (by omega)
    refine rTalk_congr ?_ ?_ ?_ ?_ ?_ ?_ (kt t hlt)
    · intro f hf; exact y1 _ (by omega) (by omega)
    · intro i hi; exact y2 _ hi
    · intro i hi; exact y3 _ hi
    · intro f hf; exact hF f t hf (by omega)
    · intro i hi; exact hX _ (by omega)
    · intro i hi; exact hC _ (by omega)
  · intro m hlt
    have q := km m hlt
    obtain ⟨y1, y2, y3⟩ := hm m (by omega)
    unfold rMean at q ⊢
    obtain ⟨q1, q2, q3, q4, ⟨t, q5, q6, q7⟩, q8⟩ := q
    rw [y1 2 (by omega) (by omega), y1 3 (by omega) (by omega), y1 4 (by omega) (by omega), h1 m (by omega), h2 m (by omega), h3 m (by omega)]
    obtain ⟨x1, x2, x3⟩ := ht t (by omega)
    have hn : (U.1 (B + 3 + 5 * t) (2 + 0)).toNatClampNeg ≤ 12 := by
      obtain ⟨n, hv, _⟩ := kt t q5
      have e : U.1 (B + 3 + 5 * t) (2 + 0) = Int32.ofNat n := hv.1
      rw [e, ofNat_clamp (by have := hv.2.2.1; omega)]
      exact hv.2.2.1
    refine ⟨q1, q2, q3, q4, ⟨t, q5, q6, ?_⟩, ?_⟩
    · intro i hi
      dsimp only at hi ⊢
      rw [x1 (2 + 0) (by omega) (by omega)] at hi
      rw [x1 (2 + 3) (by omega) (by omega), h4 (12 * m + i) (by omega), y2 i (by omega)]
      exact q7 i hi
    · intro i hi
      dsimp only
      rw [h5 (12 * m + i) (by omega), y3 i hi]
      exact q8 i hi
theorem fld8 {P : Nat → Prop} (h0 : P 0) (h1 : P 1) (h2 : P 2) (h3 : P 3) (h4 : P 4) (h5 : P 5) (h6 : P 6) (h7 : P 7) : ∀ f, f < 8 → P f := by
  intro f hf
  have : f = 0 ∨ f = 1 ∨ f = 2 ∨ f = 3 ∨ f = 4 ∨ f = 5 ∨ f = 6 ∨ f = 7 := by omega
  rcases this with rfl | rfl | rfl | rfl | rfl | rfl | rfl | rfl <;> assumption
theorem st_image {U : sU} (h : Inv U) : Two (f_154 U) f_279 := by
  obtain ⟨nT, nM, h⟩ := h
  obtain ⟨V, v1, ⟨y1, y2, y3, y4⟩, v2, v3⟩ := scopy (A := 105) (B := 2) (U := U) (Or.inl ⟨rfl, rfl⟩) (fun t ht => by
    have := h.2.2.2.2.2.2.1 t ht
    rw [show 2 + 3 + 5 * t = 5 + 5 * t by omega]; exact this)
  obtain ⟨o1, o2, o3, _⟩ := zL_ok
  have a3 : (sI V 0 3 1).1 105 3 = Int32.ofNat nM := by rw [sI_ne (by omega), v3]; exact h.1.1.2.1
  have u0 : (sI V 0 3 1).1 280 0 = Int32.ofNat nT := by rw [sI_ne (by omega), y4 _ _ (by omega)]; exact h.1.2.1
  have u1 : (sI V 0 3 1).1 280 1 = Int32.ofNat nM := by rw [sI_ne (by omega), y4 _ _ (by omega)]; exact h.1.2.2
  have g : ∀ Y : sU, Y = sI (sI (sI V 0 3 1) 280 54 ((sI V 0 3 1).1 280 0)) 280 55 ((sI (sI V 0 3 1) 280 54 ((sI V 0 3 1).1 280 0)).1 280 1) → ∃ W, f_278 0 Y = some W ∧ W.1 280 1 = Int32.ofNat nM ∧ InvN nT nM W := by
    intro Y hY
    obtain ⟨W, w1, w2, w3, w4⟩ := zcp_in zL 0 Y o1 (by omega)
    have yb : ∀ b j, b ≠ 280 → b ≠ 0 → Y.1 b j = V.1 b j := fun b j h1 h2 => by rw [hY, sI_ne h1, sI_ne h1, sI_ne h2]
    have y280 : ∀ j, j ≠ 54 → j ≠ 55 → Y.1 280 j = U.1 280 j := fun j h1 h2 => by rw [hY, sI_nj h2, sI_nj h1, sI_ne (by omega)]; exact y4 _ _ (by omega)
    have y54 : Y.1 280 54 = Int32.ofNat nT := by rw [hY, sI_nj (by omega), sI_at, u0]
    have y55 : Y.1 280 55 = Int32.ofNat nM := by rw [hY, sI_at, sI_nj (by omega), u1]
    have y0 : ∀ j, j ≠ 3 → Y.1 0 j = U.1 0 j := fun j h1 => by rw [hY, sI_ne (by omega), sI_ne (by omega), sI_nj h1]; exact y4 _ _ (by omega)
    have y03 : Y.1 0 3 = 1 := by rw [hY, sI_ne (by omega), sI_ne (by omega), sI_at]
    have wb : ∀ b j, b ≠ 313 → W.1 b j = Y.1 b j := fun b j h1 => w4 b j (fun q => h1 q.1)
    have E : ∀ b j, b ≠ 280 → b ≠ 0 → b ≠ 313 → ¬ (105 ≤ b ∧ b < 208) → W.1 b j = U.1 b j := fun b j h1 h2 h3 h4 => by rw [wb b j h3, yb b j h1 h2]; exact y4 b j (by omega)
    have wl : W.2 = U.2 := by rw [w2, hY]; exact y3
    refine ⟨W, (f278_eq 0 Y).trans w1, ?_, rNow_congr ?_ ?_ ?_ ?_ h.1, ?_, ?_, ?_, ⟨?_, ?_, ?_⟩, ?_⟩
    · rw [wb _ _ (by omega), y280 _ (by omega) (by omega)]; exact h.1.2.2
    · intro a j q r; exact E a j (by omega) (by omega) (by omega) (by omega)
    · intro a j q r; exact E a j (by omega) (by omega) (by omega) (by omega)
    · rw [wb _ _ (by omega), y280 _ (by omega) (by omega)]
    · rw [wb _ _ (by omega), y280 _ (by omega) (by omega)]
    · intro s hs
      exact rShelf_congr (fun j => E _ _ (by omega) (by omega) (by omega) (by omega)) (fun a q r => E _ _ (by omega) (by omega) (by omega) (by omega)) (fun i hi => by rw [wl]) (fun i hi => by rw [wl]) (h.2.1 s hs)
    · intro i hi
      rw [E 281 i (by omega) (by omega) (by omega) (by omega), E 209 i (by omega) (by omega) (by omega) (by omega)]
      exact h.2.2.1 i hi
    · rw [wb _ _ (by omega), y280 _ (by omega) (by omega), wb 0 5 (by omega), y0 _ (by omega)]
      exact h.2.2.2.1
    · rw [wb 280 53 (by omega), y280 _ (by omega) (by omega), E 261 4 (by omega) (by omega) (by omega) (by omega)]; exact h.2.2.2.2.1.1
    · rw [E 261 4 (by omega) (by omega) (by omega) (by omega)]; exact h.2.2.2.2.1.2.1
    · intro i hi
      rw [E 312 i (by omega) (by omega) (by omega) (by omega), E 263 i (by omega) (by omega) (by omega) (by omega)]; exact h.2.2.2.2.1.2.2 i hi
    · have V5 : ∀ b j, 105 ≤ b → b < 208 → W.1 b j = V.1 b j := fun b j h1 h2 => by rw [wb b j (by omega), yb b j (by omega) (by omega)]
      have Yt : ∀ b j, 288 ≤ b → b ≤ 302 → Y.1 b j = U.1 b j := fun b j h1 h2 => by rw [yb b j (by omega) (by omega)]; exact y4 b j (by omega)
      refine ⟨Or.inr ⟨by rw [wb _ _ (by omega)]; exact y03, nT, nM, ?_, ?_, ?_⟩, ?_, ?_⟩
      · obtain ⟨s0, s1, s2, s3, s4, s5, s6, s7, s8, s9, s10, s11, s12, s13, s14, _⟩ := w3
        refine rStore_move (A := 105) (B := 2) (U := U) (V := W) ?_ ?_ ?_ ?_ ?_ ?_ ?_ ?_ ?_ ?_ ?_ ?_ h.1.1
        · rw [V5 _ _ (by omega) (by omega)]; exact v2
        · rw [V5 _ _ (by omega) (by omega)]; exact v3
        · intro t ht
          obtain ⟨a1, a2, a3⟩ := y1 t ht
          exact ⟨fun j h1 h2 => by rw [V5 _ _ (by omega) (by omega)]; exact a1 j h1 h2, fun i hi => by rw [V5 _ _ (by omega) (by omega)]; exact a2 i hi, fun i hi => by rw [V5 _ _ (by omega) (by omega)]; exact a3 i hi⟩
        · intro m hm
          obtain ⟨a1, a2, a3⟩ := y2 m hm
          exact ⟨fun j h1 h2 => by rw [V5 _ _ (by omega) (by omega)]; exact a1 j h1 h2, fun i hi => by rw [V5 _ _ (by omega) (by omega)]; exact a2 i hi, fun i hi => by rw [V5 _ _ (by omega) (by omega)]; exact a3 i hi⟩
        · intro f t hf ht
          refine fld8 (P := fun f => W.1 313 (8 * f + t) = U.1 (288 + f) t) ?_ ?_ ?_ ?_ ?_ ?_ ?_ ?_ f hf
          · exact (s0 t ht).trans (Yt _ _ (by omega) (by omega))
          · exact (s1 t ht).trans (Yt _ _ (by omega) (by omega))
          · exact (s2 t ht).trans (Yt _ _ (by omega) (by omega))
          · exact (s3 t ht).trans (Yt _ _ (by omega) (by omega))
          · exact (s4 t ht).trans (Yt _ _ (by omega) (by omega))
          · exact (s5 t ht).trans (Yt _ _ (by omega) (by omega))
          · exact (s6 t ht).trans (Yt _ _ (by omega) (by omega))
          · exact (s7 t ht).trans (Yt _ _ (by omega) (by omega))
        · intro i hi; exact (s8 i hi).trans (Yt _ _ (by omega) (by omega))
        · intro i hi; exact (s9 i hi).trans (Yt _ _ (by omega) (by omega))
        · intro i hi; exact (s10 i hi).trans (Yt _ _ (by omega) (by omega))
        · intro i hi; exact (s11 i hi).trans (Yt _ _ (by omega) (by omega))
        · intro i hi; exact (s12 i hi).trans (Yt _ _ (by omega) (by omega))
        · intro i hi; exact (s13 i hi).trans (Yt _ _ (by omega) (by omega))
        · intro i hi; exact (s14 i hi).trans (Yt _ _ (by omega) (by omega))
      · rw [wb _ _ (by omega)]; exact y54
      · rw [wb _ _ (by omega)]; exact y55
      · intro t ht
        rw [E _ _ (by omega) (by omega) (by omega) (by omega)]
        exact h.2.2.2.2.2.2.1 t ht
      · intro t ht
        rw [V5 _ _ (by omega) (by omega), show 108 + 5 * t = 105 + 3 + 5 * t by omega, (y1 t ht).1 7 (by omega) (by omega), show 2 + 3 + 5 * t = 5 + 5 * t by omega]
        exact h.2.2.2.2.2.2.1 t ht
  obtain ⟨W, g1, g2, g3⟩ := g _ rfl
  refine ⟨Int32.ofNat nM, sI V 0 3 1, W, ?_, ?_, nT, nM, g3⟩
  · unfold f_154
    rw [v1, Option.bind_some, a3]
  · unfold f_279
    rw [g1, Option.bind_some, g2]
