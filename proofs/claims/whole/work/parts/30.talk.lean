/-! talkOf, truth, chance, change -/
theorem f158_1 {U : sU} {w : Int32} {a j : Nat} (hw : 1 ≤ w.toInt ∧ w.toInt ≤ 7) (h : a ≠ 209) : (f_158 w U).2.1 a j = U.1 a j := by
  rw [far_eq hw]
  exact f157_1 hw h
theorem f159_1 {U : sU} {w : Int32} {a j : Nat} (hw : 1 ≤ w.toInt ∧ w.toInt ≤ 7) (h : a ≠ 209) : (f_159 w U).2.1 a j = U.1 a j := by
  rw [f159_eq hw]
  exact f157_1 hw h
theorem st_talkOf {U : sU} (h : Inv U) (k w : Int32) : Two (some (f_122 k w U)) (f_206 k w) := by
  have h0 := h
  obtain ⟨nT, nM, h⟩ := h
  have n1 : U.1 280 0 = Int32.ofNat nT := h.1.2.1
  have n8 := h.1.1.2.2.1
  have n5 : ∀ j, (f_158 5 U).2.1 280 j = U.1 280 j := fun j => f158_1 (by decide) (by decide)
  by_cases hk : 0 ≤ k.toInt ∧ k.toInt < nT
  case neg => exact far_to h0 (w := 5) (by decide) (by unfold f_122; rw [tat_no h hk]) (by unfold f_206; rw [if_pos (f178_no ((n5 0).trans n1) n8 hk)])
  obtain ⟨e1, e2, e3, e4, _⟩ := tat_yes h hk
  obtain ⟨n, _, _, q0, q0', q1, q2, q3, q4, q5, q6, q7, _, _⟩ := tk_facts h e2
  have ky := f178_yes n1 n8 hk
  have ky5 := f178_yes ((n5 0).trans n1) n8 hk
  by_cases w0 : w < 0
  case pos => exact far_to h0 (w := 5) (by decide) (by unfold f_122; rw [e1]; dsimp only; rw [if_pos w0]) (by unfold f_206; rw [if_neg ky5, if_pos w0])
  by_cases w7 : w ≤ 7
  case neg => exact far_to h0 (w := 5) (by decide) (by unfold f_122; rw [e1]; dsimp only; rw [if_neg w0, if_neg w7]) (by unfold f_206; rw [if_neg ky5, if_neg w0, if_neg w7])
  have r0 := w0
  have r7 := w7
  rw [i32_lt0] at r0
  rw [i32_le] at r7
  have e7 : (7 : Int32).toInt = 7 := rfl
  unfold f_122 f_206
  rw [e1]
  have fin : ∀ {x y : Int32}, x = y → Two (some (y, U)) (fun V => some (U.1 280 0 - U.1 280 0 + x - (U.1 280 0 - U.1 280 0), V)) → True := fun _ _ => trivial
  clear fin
  rcases (by omega : w.toInt = 0 ∨ w.toInt = 1 ∨ w.toInt = 2 ∨ w.toInt = 3 ∨ w.toInt = 4 ∨ w.toInt = 5 ∨ w.toInt = 6 ∨ w.toInt = 7) with r | r | r | r | r | r | r | r
  · have : w = 0 := i32_eq.mpr r
    subst this
    exact ⟨_, U, U, rfl, by dsimp only; rw [if_neg ky]; simp only [if_pos e3]; rw [q0', ← q0]; rfl, h0⟩
  · have : w = 1 := i32_eq.mpr r
    subst this
    exact ⟨_, U, U, rfl, by dsimp only; rw [if_neg ky]; simp only [if_pos e3]; rw [q1.1]; rfl, h0⟩
  · have : w = 2 := i32_eq.mpr r
    subst this
    exact ⟨_, U, U, rfl, by dsimp only; rw [if_neg ky]; simp only [if_pos e3]; rw [q2.1]; rfl, h0⟩
  · have : w = 3 := i32_eq.mpr r
    subst this
    exact ⟨_, U, U, rfl, by dsimp only; rw [if_neg ky]; simp only [if_pos e3]; rw [q3.1]; rfl, h0⟩
  · have : w = 4 := i32_eq.mpr r
    subst this
    exact ⟨_, U, U, rfl, by dsimp only; rw [if_neg ky]; simp only [if_pos e3]; rw [q4.1]; rfl, h0⟩
  · have : w = 5 := i32_eq.mpr r
    subst this
    rcases q5.2 with q | q
    · exact ⟨0, U, U, by dsimp only; rw [q]; rfl, by dsimp only; rw [if_neg ky]; simp only [if_pos e3]; rw [q5.1, q]; rfl, h0⟩
    · exact ⟨1, U, U, by dsimp only; rw [q]; rfl, by dsimp only; rw [if_neg ky]; simp only [if_pos e3]; rw [q5.1, q]; rfl, h0⟩
  · have : w = 6 := i32_eq.mpr r
    subst this
    exact ⟨_, U, U, rfl, by dsimp only; rw [if_neg ky]; simp only [if_pos e3]; rw [q6.1]; rfl, h0⟩
  · have : w = 7 := i32_eq.mpr r
    subst this
    exact ⟨_, U, U, rfl, by dsimp only; rw [if_neg ky]; simp only [if_pos e3]; rw [q7.1]; rfl, h0⟩
theorem mul12 {s i : Int32} {n m : Nat} (hs : s.toInt = n) (hi : i.toInt = m) (hn : n < 12) (hm : m < 12) : (12 * s + i).toInt = 12 * n + m ∧ (12 * s + i).toNatClampNeg = 12 * n + m := by
  have e : (12 * s + i).toInt = 12 * n + m := by
    rw [Int32.toInt_add, Int32.toInt_mul, hs, hi]
    have : (12 : Int32).toInt = 12 := rfl
    rw [this, Int.bmod_eq_of_le (n := 12 * (n : Int)) (by omega) (by omega), Int.bmod_eq_of_le (by omega) (by omega)]
  exact ⟨e, by rw [clamp_int, e]; omega⟩
/-- whether a talk has a truth, on both sides -/
theorem f102_iff {a : Nat} {x : Int32} {U : sU} {n : Nat} (hn : n ≤ 12) (h : U.1 a 2 = Int32.ofNat n) : f_102 a x U = 0 ↔ ¬ (0 ≤ x.toInt ∧ x.toInt < n) := by
  unfold f_102
  rw [h]
  by_cases h1 : x < 0
  · rw [if_pos h1]; rw [i32_lt0] at h1
    exact ⟨fun _ => by omega, fun _ => rfl⟩
  rw [if_neg h1]; rw [i32_lt0] at h1
  by_cases h2 : Int32.ofNat n ≤ x
  · rw [if_pos h2]; rw [i32_le, ofNat_int (by omega)] at h2
    exact ⟨fun _ => by omega, fun _ => rfl⟩
  rw [if_neg h2]; rw [i32_le, ofNat_int (by omega)] at h2
  exact ⟨fun q => absurd q (by decide), fun q => absurd (by omega) q⟩
theorem f179_eq {V : sU} {nT n : Nat} (hV : V.1 280 0 = Int32.ofNat nT) (h8 : nT ≤ 8) {k x : Int32} (hk : 0 ≤ k.toInt ∧ k.toInt < nT) (hn : n ≤ 12) (hd : V.1 288 k.toNatClampNeg = Int32.ofNat n) : f_179 k x V = some (if 0 ≤ x.toInt ∧ x.toInt < n then 1 else 0) := by
  have e := clamp_int k
  unfold f_179
  rw [if_neg (f178_yes hV h8 hk), if_pos (ib_int.mpr (by omega)), hd]
  by_cases h1 : x < 0
  · rw [if_pos h1]; rw [i32_lt0] at h1
    rw [if_neg (by omega)]
  rw [if_neg h1]; rw [i32_lt0] at h1
  by_cases h2 : Int32.ofNat n ≤ x
  · rw [if_pos h2]; rw [i32_le, ofNat_int (by omega)] at h2
    rw [if_neg (by omega)]
  rw [if_neg h2]; rw [i32_le, ofNat_int (by omega)] at h2
  rw [if_pos (by omega)]
theorem f179_no {V : sU} {nT : Nat} (hV : V.1 280 0 = Int32.ofNat nT) (h8 : nT ≤ 8) {k x : Int32} (hk : ¬ (0 ≤ k.toInt ∧ k.toInt < nT)) : f_179 k x V = some 0 := by
  unfold f_179
  rw [if_pos (f178_no hV h8 hk)]
theorem ln_tk : ∀ t, t < 8 → ln (5 + 5 * t + 1 + 1) = 12 ∧ ln (5 + 5 * t + 3 + 1) = 12 := by decide +kernel
theorem st_truth {U : sU} (h : Inv U) (k x w : Int32) : Two (some (f_123 k x w U)) (f_207 k x w) := by
  have h0 := h
  obtain ⟨nT, nM, h⟩ := h
  have n1 : U.1 280 0 = Int32.ofNat nT := h.1.2.1
  have n8 := h.1.1.2.2.1
  have n5 : ∀ a j, a ≠ 209 → (f_157 5 U).2.1 a j = U.1 a j := fun a j q => f157_1 (by decide) q
  by_cases hk : 0 ≤ k.toInt ∧ k.toInt < nT
  case neg => exact ref_to h0 (w := 5) (by decide) (by unfold f_123; rw [tat_no h hk]) (by unfold f_207; rw [f179_no ((n5 280 0 (by decide)).trans n1) n8 hk]; rfl)
  obtain ⟨e1, e2, e3, e4, _⟩ := tat_yes h hk
  obtain ⟨n, _, n12, q0, q0', _, _, _, _, _, _, _, qx, _⟩ := tk_facts h e2
  have f5 := f179_eq (x := x) ((n5 280 0 (by decide)).trans n1) n8 hk n12 ((n5 288 k.toNatClampNeg (by decide)).trans q0')
  have f0 := f179_eq (x := x) n1 n8 hk n12 q0'
  by_cases hx : 0 ≤ x.toInt ∧ x.toInt < n
  case neg => exact ref_to h0 (w := 5) (by decide) (by unfold f_123; rw [e1]; dsimp only; rw [if_pos ((f102_iff n12 q0).mpr hx)]) (by unfold f_207; rw [f5, if_neg hx]; rfl)
  have cx : ¬ f_102 (5 + 5 * k.toNatClampNeg) x U = 0 := fun q => (f102_iff n12 q0).mp q hx
  rw [if_pos hx] at f5 f0
  by_cases w0 : w < 0
  case pos => exact ref_to h0 (w := 5) (by decide) (by unfold f_123; rw [e1]; dsimp only; rw [if_neg cx, if_pos w0]) (by unfold f_207; rw [f5, Option.bind_some, if_neg (by decide), if_pos w0])
  by_cases w1 : w ≤ 1
  case neg => exact ref_to h0 (w := 5) (by decide) (by unfold f_123; rw [e1]; dsimp only; rw [if_neg cx, if_neg w0, if_neg w1]) (by unfold f_207; rw [f5, Option.bind_some, if_neg (by decide), if_neg w0, if_neg w1])
  have ei : x.toInt = x.toNatClampNeg := by rw [clamp_int]; omega
  obtain ⟨m1, m2⟩ := mul12 e4 ei (by omega) (by omega)
  have hib : ib (12 * k + x) 96 := ib_int.mpr (by omega)
  obtain ⟨l1, l2⟩ := ln_tk k.toNatClampNeg (by omega)
  obtain ⟨x1, _, _, x4, _⟩ := qx x.toNatClampNeg (by omega)
  have g1 : iget (5 + 5 * k.toNatClampNeg + 1) x U = U.1 (7 + 5 * k.toNatClampNeg) x.toNatClampNeg := by
    unfold iget
    rw [if_pos (ib_int.mpr (by omega)), show 5 + 5 * k.toNatClampNeg + 1 + 1 = 7 + 5 * k.toNatClampNeg by omega]
  have g3 : iget (5 + 5 * k.toNatClampNeg + 3) x U = U.1 (9 + 5 * k.toNatClampNeg) x.toNatClampNeg := by
    unfold iget
    rw [if_pos (ib_int.mpr (by omega)), show 5 + 5 * k.toNatClampNeg + 3 + 1 = 9 + 5 * k.toNatClampNeg by omega]
  unfold f_123 f_207
  rw [e1]
  dsimp only
  rw [if_neg cx, if_neg w0, if_pos w1, g1, g3]
  by_cases hw : w = 0
  · rw [if_pos hw]
    refine ⟨_, U, U, rfl, ?_, h0⟩
    dsimp only
    rw [f0, Option.bind_some, if_neg (by decide), if_neg w0, if_pos w1, if_pos hw, if_pos hib, m2, x1]
  · rw [if_neg hw]
    refine ⟨_, U, U, rfl, ?_, h0⟩
    dsimp only
    rw [f0, Option.bind_some, if_neg (by decide), if_neg w0, if_pos w1, if_neg hw, if_pos hib, m2, x4]
