/-! best, beside, room -/
theorem cde_int {o : Option Nat} (h : ∀ b, o = some b → b < 4096) : (cde o).toInt = match o with | none => -1 | some b => (b : Int) := by
  cases o with
  | none => rfl
  | some b => exact ofNat_int (by have := h b rfl; omega)
theorem st_best {U : sU} (h : Inv U) (x y : Int32) : Two (f_140 x y U) (f_248 x y) := by
  have h0 := h
  have e0 : (0 : Int32).toInt = 0 := rfl
  have e1' : (1 : Int32).toInt = 1 := rfl
  obtain ⟨nT, nM, h⟩ := h
  have n8 := h.1.1.2.2.1
  by_cases hx : 0 ≤ x.toInt ∧ x.toInt < nT
  case neg => exact ref_to h0 (w := 1) (by decide) (by unfold f_140; rw [tat_no h hx]) (by unfold f_248; rw [if_pos (f178_no (ref_n0 (by decide) h) n8 hx)])
  obtain ⟨e1, e2, e3, e4, _⟩ := tat_yes h hx
  obtain ⟨n, hM⟩ := MT_of h e2
  have t8 := hM.1
  have i8 : ib x 8 := ib_int.mpr (by omega)
  by_cases hy : 0 ≤ y.toInt ∧ y.toInt ≤ 1
  case neg =>
    refine ref_to h0 (w := 6) (by decide) (by unfold f_140; rw [e1]; dsimp only; rw [if_pos (f168_iff.mpr hy)]) ?_
    unfold f_248
    rw [if_neg (f178_yes (ref_n0 (by decide) h) n8 hx)]
    by_cases y0 : y < 0
    · rw [if_pos y0]
    · rw [if_neg y0]
      rw [i32_lt0] at y0
      rw [if_neg (by rw [i32_le, e1']; omega)]
  have cy : ¬ f_168 y U = 0 := fun q => f168_iff.mp q hy
  have hl := hM.2.2.2.2.1
  have hw := hM.2.2.2.1
  have p2 := two_pow_le hM.2.1.2.2.1
  have bd : ∀ b, zbe (zp U x.toNatClampNeg n 1 (U.1 (5 + 5 * x.toNatClampNeg) 3).toInt) (zwc U x.toNatClampNeg n (if y = 0 then (U.1 (5 + 5 * x.toNatClampNeg) 4).toInt else (U.1 (5 + 5 * x.toNatClampNeg) 3).toInt)) (2 ^ (n - 1)) = some b → b < 4096 := fun b hb => by have := zbe_lt hb; omega
  refine two_i h0 (v := (cde (zbe (zp U x.toNatClampNeg n 1 (U.1 (5 + 5 * x.toNatClampNeg) 3).toInt) (zwc U x.toNatClampNeg n (if y = 0 then (U.1 (5 + 5 * x.toNatClampNeg) 4).toInt else (U.1 (5 + 5 * x.toNatClampNeg) 3).toInt)) (2 ^ (n - 1)))).toInt) ?_ ?_
  · obtain ⟨V, v1, v2, _⟩ := best_c (side := y) hM
    unfold f_140
    rw [e1]
    dsimp only
    rw [if_neg cy, v1]
    exact ⟨_, V, rfl, v2, rfl⟩
  · intro Y hY
    have hMY := MT_same hM hY
    have y4 : Y.1 290 x.toNatClampNeg = U.1 (5 + 5 * x.toNatClampNeg) 4 := by rw [hY.1 290 _ (by unfold scr; omega)]; exact hl.1
    have y3 : Y.1 289 x.toNatClampNeg = U.1 (5 + 5 * x.toNatClampNeg) 3 := by rw [hY.1 289 _ (by unfold scr; omega)]; exact hw.1
    unfold f_248
    rw [if_neg (f178_yes (InvN_same hY h).1.2.1 n8 hx), if_neg (by rw [i32_lt0]; omega), if_pos (by rw [i32_le, e1']; omega)]
    by_cases hy0 : y = 0
    · rw [if_pos hy0, if_pos hy0, if_pos i8, y4]
      obtain ⟨Z, z1, z2⟩ := best_m2 hMY e4 (s := U.1 (5 + 5 * x.toNatClampNeg) 4) (by omega)
      rw [zp_same hY t8, zwc_same hY t8, hY.lo (by omega : 5 + 5 * x.toNatClampNeg < 210)] at z1
      rw [z1]
      exact ⟨_, Z, rfl, z2, rfl⟩
    · rw [if_neg hy0, if_neg hy0, if_pos i8, y3]
      obtain ⟨Z, z1, z2⟩ := best_m2 hMY e4 (s := U.1 (5 + 5 * x.toNatClampNeg) 3) (by omega)
      rw [zp_same hY t8, zwc_same hY t8, hY.lo (by omega : 5 + 5 * x.toNatClampNeg < 210)] at z1
      rw [z1]
      exact ⟨_, Z, rfl, z2, rfl⟩
/-- all cuts: each truth a word of its own -/
theorem run_m {M : sU} {t n c : Nat} (h : MT M t n) {x s : Int32} (hx : x.toInt = t) (hc : c < 2048) (hs : -600 ≤ s.toInt ∧ s.toInt ≤ 600) : ∃ V1 V2 r, f_234 x (Int32.ofNat c) M = some V1 ∧ f_235 x V1 = some V2 ∧ f_241 x s V2 = some r ∧ Same M V2 ∧ r.toInt = zwc M t n s.toInt c ∧ 0 ≤ r.toInt ∧ r.toInt ≤ 12 * (99 * 2560000) := by
  have hT := h.2.1
  have t8 := h.1
  have hW := Bw_W (c := c) hT.2.1 hT.2.2.1
  obtain ⟨V1, a1, a2, a3⟩ := parts_m h hx hc
  obtain ⟨V2, b1, b2, b3, b4⟩ := hears_m (MT_same h a2) hx a3 hW
  have hS := a2.tr b2
  have hd : Hd M V2 t n (zW c) (zW c (n - 1) + 1) := by
    refine ⟨fun w hw => ?_, fun h7 w hw => ?_⟩
    · rw [b4.1 w hw, hH_same a2 (by omega), a2.lo (by omega : 5 + 5 * t < 210)]
    · rw [b4.2 (by rw [a2.lo (by omega : 5 + 5 * t < 210)]; exact h7) w hw, hH_same a2 (by omega), a2.lo (by omega : 5 + 5 * t < 210)]
  obtain ⟨r, r1, r2⟩ := runWorth_m h hS b3 hd hW hx hs
  have bd := zrw_bd (q := M.1 (5 + 5 * t) 6) (n := n) (H := hH M (5 + 5 * t) n (zW c) (M.1 (5 + 5 * t) 4).toInt) (X := gX M (5 + 5 * t)) (C := gC M (5 + 5 * t)) (W := zW c) (s := s.toInt) hT.2.2.1 (fun i _ => hH_bd) (fun i hi => by have := hT.2.2.2.2.1 i hi; omega) (fun i hi => by have := hT.2.2.2.2.1 i hi; omega) hs
  exact ⟨V1, V2, r, a1, b1, r1, hS, r2, by rw [r2]; exact bd.1, by rw [r2]; exact bd.2⟩
theorem st_beside {U : sU} (h : Inv U) (x y : Int32) : Two (f_136 x y U) (f_242 x y) := by
  have h0 := h
  have e1' : (1 : Int32).toInt = 1 := rfl
  obtain ⟨nT, nM, h⟩ := h
  have n8 := h.1.1.2.2.1
  by_cases hx : 0 ≤ x.toInt ∧ x.toInt < nT
  case neg => exact farJ_to h0 (w := 5) (by decide) (by unfold f_136; rw [tat_no h hx]) (by unfold f_242; rw [if_pos (f178_no (farJ_n h).2 n8 hx)])
  obtain ⟨e1, e2, e3, e4, _⟩ := tat_yes h hx
  obtain ⟨n, hM⟩ := MT_of h e2
  have t8 := hM.1
  have i8 : ib x 8 := ib_int.mpr (by omega)
  by_cases hy : 0 ≤ y.toInt ∧ y.toInt ≤ 1
  case neg =>
    refine farJ_to h0 (w := 5) (by decide) (by unfold f_136; rw [e1]; dsimp only; rw [if_pos (f168_iff.mpr hy)]) ?_
    unfold f_242
    rw [if_neg (f178_yes (farJ_n h).2 n8 hx)]
    by_cases y0 : y < 0
    · rw [if_pos y0]
    · rw [if_neg y0]
      rw [i32_lt0] at y0
      rw [if_neg (by rw [i32_le, e1']; omega)]
  have cy : ¬ f_168 y U = 0 := fun q => f168_iff.mp q hy
  have hl := hM.2.2.2.2.1
  have hw := hM.2.2.2.1
  have hT := hM.2.1
  have n12 := hT.2.2.1
  have p2 := two_pow_le n12
  have p1 := Nat.two_pow_pos (n - 1)
  have ec : ∀ k : Nat, 1 ≤ k → k ≤ 2048 → Int32.ofNat k - 1 = Int32.ofNat (k - 1) := by
    intro k k1 k2
    apply Int32.toInt_inj.mp
    rw [s32 (by rw [e1', ofNat_int (by omega)]; omega) (by rw [e1', ofNat_int (by omega)]; omega), e1', ofNat_int (by omega), ofNat_int (by omega)]
    omega
  generalize hs : (if y = 0 then (U.1 (5 + 5 * x.toNatClampNeg) 4).toInt else (U.1 (5 + 5 * x.toNatClampNeg) 3).toInt) = s
  refine two_j h0 (v := zwc U x.toNatClampNeg n s 0 - zwc U x.toNatClampNeg n s (2 ^ (n - 1) - 1)) ?_ ?_
  · have s0 := Ss_take (U := U) (V := U) (a := 218) (T := 5 + 5 * x.toNatClampNeg) (n := n) (l := U.1 (5 + 5 * x.toNatClampNeg) 4) (w := U.1 (5 + 5 * x.toNatClampNeg) 3) (Same.rf U) (Or.inl rfl) hT hl.2 (by omega)
    obtain ⟨V1, V2, a1, a2, a3, a4, a5⟩ := run_c s0 (by omega : 0 < 2048)
    obtain ⟨V3, V4, b1, b2, b3, b4, b5⟩ := run_c a4 (by omega : 2 ^ (n - 1) - 1 < 2048)
    obtain ⟨r, r1, r2, r3, r4⟩ := worth_s (side := y) a4 a5
    obtain ⟨q, q1, q2, q3, q4⟩ := worth_s (side := y) b4 b5
    rw [zwo_0, zAc_0, hs] at r2 q2
    have e103 : f_103 (5 + 5 * x.toNatClampNeg) V2 = Int32.ofNat (2 ^ (n - 1)) := f103_eq ((a4.1.lo (by omega)).trans hT.1) hT.2.1 n12
    unfold f_136
    rw [e1]
    dsimp only
    rw [if_neg cy]
    have a1 : f_39 218 0 (f_35 218 (5 + 5 * x.toNatClampNeg) (U.1 (5 + 5 * x.toNatClampNeg) 4) (U.1 (5 + 5 * x.toNatClampNeg) 3) U) = some V1 := a1
    rw [a1, Option.bind_some, a2, Option.bind_some, r1, Option.bind_some, e103, ec _ (by omega) p2, b1, Option.bind_some, b2, Option.bind_some, q1, Option.bind_some]
    refine ⟨_, V4, rfl, b4.1, ?_⟩
    rw [s64 (by omega) (by omega), r2, q2]
    rfl
  · intro Y hY
    have hMY := MT_same hM hY
    have y4 : Y.1 290 x.toNatClampNeg = U.1 (5 + 5 * x.toNatClampNeg) 4 := by rw [hY.1 290 _ (by unfold scr; omega)]; exact hl.1
    have y3 : Y.1 289 x.toNatClampNeg = U.1 (5 + 5 * x.toNatClampNeg) 3 := by rw [hY.1 289 _ (by unfold scr; omega)]; exact hw.1
    have main : ∀ z : Int32, (-600 ≤ z.toInt ∧ z.toInt ≤ 600) → z.toInt = s → ∃ r Z, f_242_44 x z Y = some (r, Z) ∧ Same Y Z ∧ r.toInt = zwc U x.toNatClampNeg n s 0 - zwc U x.toNatClampNeg n s (2 ^ (n - 1) - 1) := by
      intro z hz hzs
      obtain ⟨V1, V2, r, a1, a2, a3, a4, a5, a6, a7⟩ := run_m hMY e4 (by omega : 0 < 2048) hz
      have hM2 := MT_same hMY a4
      obtain ⟨V3, V4, q, b1, b2, b3, b4, b5, b6, b7⟩ := run_m hM2 e4 (by omega : 2 ^ (n - 1) - 1 < 2048) hz
      have a1 : f_234 x 0 Y = some V1 := a1
      unfold f_242_44
      rw [a1, Option.bind_some, a2, Option.bind_some, a3, Option.bind_some, f239_m hM2 e4, Option.bind_some, ec _ (by omega) p2, b1, Option.bind_some, b2, Option.bind_some, b3, Option.bind_some]
      refine ⟨_, V4, rfl, a4.tr b4, ?_⟩
      rw [s64 (by omega) (by omega), a5, b5, zwc_same (hY.tr a4) t8, zwc_same hY t8, hzs]
    unfold f_242
    rw [if_neg (f178_yes (InvN_same hY h).1.2.1 n8 hx), if_neg (by rw [i32_lt0]; omega), if_pos (by rw [i32_le, e1']; omega)]
    by_cases hy0 : y = 0
    · rw [if_pos hy0] at hs
      rw [if_pos hy0, if_pos i8, y4]
      exact main _ (by omega) hs
    · rw [if_neg hy0] at hs
      rw [if_neg hy0, if_pos i8, y3]
      exact main _ (by omega) hs
