/-! talk: what was read so far; a point -/
def Jt (S V : sU) (n : Nat) : Prop := S.1 210 2 = Int32.ofNat n ∧ V.1 280 31 = Int32.ofNat n ∧ n ≤ 12 ∧ (∀ i, i < n → V.1 303 i = S.1 212 i ∧ V.1 304 i = S.1 214 i ∧ 0 ≤ (S.1 212 i).toInt ∧ (S.1 212 i).toInt ≤ 999 ∧ 1 ≤ (S.1 214 i).toInt ∧ (S.1 214 i).toInt ≤ 99) ∧ (∀ i, i + 1 < n → (S.1 212 i).toInt < (S.1 212 (i + 1)).toInt) ∧
  (V.1 280 32 = S.1 210 3 ∧ -500 ≤ (S.1 210 3).toInt ∧ (S.1 210 3).toInt ≤ 500) ∧ (V.1 280 33 = S.1 210 4 ∧ -500 ≤ (S.1 210 4).toInt ∧ (S.1 210 4).toInt ≤ 500) ∧ (V.1 280 34 = S.1 210 5 ∧ 1 ≤ (S.1 210 5).toInt ∧ (S.1 210 5).toInt ≤ 12) ∧ (V.1 280 35 = S.1 210 6 ∧ (S.1 210 6 = 0 ∨ S.1 210 6 = 1)) ∧ (V.1 280 36 = S.1 210 7 ∧ (S.1 210 7 = 0 ∨ S.1 210 7 = 1)) ∧ (V.1 280 37 = S.1 210 8 ∧ -500 ≤ (S.1 210 8).toInt ∧ (S.1 210 8).toInt ≤ 500) ∧ (V.1 280 38 = S.1 210 9 ∧ -500 ≤ (S.1 210 9).toInt ∧ (S.1 210 9).toInt ≤ 500)
theorem Jt_kp {S V S' V' : sU} {n : Nat} (h : Jt S V n) (k : Kp S V S' V') : Jt S' V' n := by
  obtain ⟨h1, h2, h3, h4, h5, f3, f4, f5, f6, f7, f8, f9⟩ := h
  obtain ⟨_, k1, _, k2⟩ := k
  have e : ∀ j, S'.1 210 j = S.1 210 j := fun j => k1 _ _ (by omega)
  have e2 : ∀ j, S'.1 212 j = S.1 212 j := fun j => k1 _ _ (by omega)
  have e4 : ∀ j, S'.1 214 j = S.1 214 j := fun j => k1 _ _ (by omega)
  have v : ∀ j, 31 ≤ j → V'.1 280 j = V.1 280 j := fun j hj => k2 _ _ (by omega)
  refine ⟨(e 2).trans h1, (v 31 (by omega)).trans h2, h3, fun i hi => ?_, fun i hi => ?_, ?_, ?_, ?_, ?_, ?_, ?_, ?_⟩
  · rw [k2 303 i (by omega), k2 304 i (by omega), e2, e4]; exact h4 i hi
  · rw [e2, e2]; exact h5 i hi
  · rw [v 32 (by omega), e]; exact f3
  · rw [v 33 (by omega), e]; exact f4
  · rw [v 34 (by omega), e]; exact f5
  · rw [v 35 (by omega), e]; exact f6
  · rw [v 36 (by omega), e]; exact f7
  · rw [v 37 (by omega), e]; exact f8
  · rw [v 38 (by omega), e]; exact f9
theorem ln_212 : ln (211 + 1) = 12 ∧ ln (213 + 1) = 12 := by decide +kernel
theorem f101_eq {S : sU} {n : Nat} {x c : Int32} (h : S.1 210 2 = Int32.ofNat n) (hn : n < 12) : f_101 210 x c S = sI (sI (sI S 212 n x) 214 n c) 210 2 (Int32.ofNat (n + 1)) := by
  have e12 : (12 : Int32).toInt = 12 := rfl
  obtain ⟨l1, l2⟩ := ln_212
  have p1 : iput (210 + 1) (Int32.ofNat n) x S = sI S 212 n x := by
    unfold iput
    rw [if_pos (by rw [l1]; exact ib_ofNat (by omega) hn), ofNat_clamp (by omega)]
  have p2 : iput (210 + 3) (Int32.ofNat n) c (sI S 212 n x) = sI (sI S 212 n x) 214 n c := by
    unfold iput
    rw [if_pos (by rw [l2]; exact ib_ofNat (by omega) hn), ofNat_clamp (by omega)]
  unfold f_101
  rw [h, if_neg (by rw [i32_le, e12, ofNat_int (by omega)]; omega), p1, sI_ne (by omega), h, p2, sI_ne (by omega), sI_ne (by omega), h, ofNat_succ]
theorem pt_add {S V S2 V2 : sU} {n : Nat} {x c : Int32} (h : Jt S V n) (e : ∀ b j, b = 210 ∨ b = 212 ∨ b = 214 → S2.1 b j = S.1 b j) (v : ∀ j, 31 ≤ j → V2.1 280 j = V.1 280 j) (w : ∀ i, i < n → V2.1 303 i = V.1 303 i ∧ V2.1 304 i = V.1 304 i) (x1 : V2.1 303 n = x) (c1 : V2.1 304 n = c) (hx : 0 ≤ x.toInt ∧ x.toInt ≤ 999) (hc : 1 ≤ c.toInt ∧ c.toInt ≤ 99) (hl : ∀ i, i + 1 = n → (S.1 212 i).toInt < x.toInt) (hn : n < 12) : Jt (sI (sI (sI S2 212 n x) 214 n c) 210 2 (Int32.ofNat (n + 1))) (sI V2 280 31 (Int32.ofNat (n + 1))) (n + 1) := by
  obtain ⟨h1, h2, h3, h4, h5, f3, f4, f5, f6, f7, f8, f9⟩ := h
  have a0 : ∀ j, j ≠ 2 → (sI (sI (sI S2 212 n x) 214 n c) 210 2 (Int32.ofNat (n + 1))).1 210 j = S.1 210 j := fun j hj => by rw [sI_nj hj, sI_ne (by omega), sI_ne (by omega)]; exact e _ _ (by omega)
  have a2 : ∀ j, (sI (sI (sI S2 212 n x) 214 n c) 210 2 (Int32.ofNat (n + 1))).1 212 j = if j = n then x else S.1 212 j := by
    intro j
    rw [sI_ne (by omega), sI_ne (by omega)]
    by_cases q : j = n
    · subst q; rw [sI_at, if_pos rfl]
    · rw [sI_nj q, if_neg q]; exact e _ _ (by omega)
  have a4 : ∀ j, (sI (sI (sI S2 212 n x) 214 n c) 210 2 (Int32.ofNat (n + 1))).1 214 j = if j = n then c else S.1 214 j := by
    intro j
    rw [sI_ne (by omega)]
    by_cases q : j = n
    · subst q; rw [sI_at, if_pos rfl]
    · rw [sI_nj q, sI_ne (by omega), if_neg q]; exact e _ _ (by omega)
  have b0 : ∀ j, 31 < j → (sI V2 280 31 (Int32.ofNat (n + 1))).1 280 j = V.1 280 j := fun j hj => by rw [sI_nj (by omega)]; exact v j (by omega)
  refine ⟨sI_at, sI_at, by omega, fun i hi => ?_, fun i hi => ?_, ?_, ?_, ?_, ?_, ?_, ?_, ?_⟩
  · rw [a2, a4, sI_ne (by omega), sI_ne (by omega)]
    by_cases q : i = n
    · subst q; rw [if_pos rfl, if_pos rfl]; exact ⟨x1, c1, hx.1, hx.2, hc.1, hc.2⟩
    · rw [if_neg q, if_neg q, (w i (by omega)).1, (w i (by omega)).2]; exact h4 i (by omega)
  · rw [a2, a2, if_neg (by omega)]
    by_cases q : i + 1 = n
    · rw [if_pos q]; exact hl i q
    · rw [if_neg q]; exact h5 i (by omega)
  · rw [b0 _ (by omega), a0 _ (by omega)]; exact f3
  · rw [b0 _ (by omega), a0 _ (by omega)]; exact f4
  · rw [b0 _ (by omega), a0 _ (by omega)]; exact f5
  · rw [b0 _ (by omega), a0 _ (by omega)]; exact f6
  · rw [b0 _ (by omega), a0 _ (by omega)]; exact f7
  · rw [b0 _ (by omega), a0 _ (by omega)]; exact f8
  · rw [b0 _ (by omega), a0 _ (by omega)]; exact f9
/-- places beside the reader's: both sides may write them -/
theorem Jp_in {U V0 S V S' V' : sU} {s L p : Nat} (h : Jp U V0 s L S V p) (c1 : S'.2 = S.2) (c2 : ∀ b j, ¬ (210 ≤ b ∧ b < 215) → S'.1 b j = S.1 b j) (m1 : V'.2 = V.2) (m2 : ∀ b j, ¬ (b = 280 ∧ 31 ≤ j ∧ j < 39) → b ≠ 303 → b ≠ 304 → V'.1 b j = V.1 b j) : Jp U V0 s L S' V' p := by
  obtain ⟨⟨d1, d2⟩, ⟨g1, g2⟩, h1, h2, h3, h4, h5, h6, h7, h8⟩ := h
  exact ⟨⟨c1.trans d1, fun b j q => by rw [c2 b j (by omega)]; exact d2 b j q⟩, ⟨m1.trans g1, fun b j q r t => by rw [m2 b j (by omega) r t]; exact g2 b j q r t⟩, (c2 _ _ (by omega)).trans h1, (c2 _ _ (by omega)).trans h2, (c2 _ _ (by omega)).trans h3, fun j hj => (c2 _ _ (by omega)).trans (h4 j hj), (m2 _ _ (by omega) (by omega) (by omega)).trans h5, (m2 _ _ (by omega) (by omega) (by omega)).trans h6, (m2 _ _ (by omega) (by omega) (by omega)).trans h7, h8⟩
theorem Jp_pt {U V0 S2 V2 : sU} {s L p n : Nat} {x c : Int32} (h : Jp U V0 s L S2 V2 p) : Jp U V0 s L (sI (sI (sI S2 212 n x) 214 n c) 210 2 (Int32.ofNat (n + 1))) (sI V2 280 31 (Int32.ofNat (n + 1))) p := by
  refine Jp_in h rfl (fun b j q => by rw [sI_ne (by omega), sI_ne (by omega), sI_ne (by omega)]) rfl (fun b j q r t => ?_)
  by_cases e : b = 280
  · subst e; exact sI_nj (by omega)
  · exact sI_ne e
