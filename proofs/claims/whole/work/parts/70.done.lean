/-! done -/
theorem shr_neg {x : Int32} {w : Nat} (hx : x.toInt < 0) (hw : w < 32) : ¬ x >>> (Int32.ofNat w &&& 31) = 0 := by
  have e : ∀ w, w < 32 → (Int32.ofNat w &&& 31).toBitVec.smod 32 = BitVec.ofNat 32 w := by decide
  have e2 : (BitVec.ofNat 32 w).toNat = w := by rw [BitVec.toNat_ofNat]; exact Nat.mod_eq_of_lt (by omega)
  have e3 : x.toBitVec.toInt = x.toInt := rfl
  have e0 : (0 : Int32).toInt = 0 := rfl
  have k : (x >>> (Int32.ofNat w &&& 31)).toInt = x.toInt / ((2 ^ w : Nat) : Int) := by
    show (BitVec.sshiftRight' x.toBitVec ((Int32.ofNat w &&& 31).toBitVec.smod 32)).toInt = _
    rw [e w hw, BitVec.sshiftRight_eq', e2, BitVec.toInt_sshiftRight, e3, Int.shiftRight_eq_div_pow]
  have p : 0 < ((2 ^ w : Nat) : Int) := by
    have := Nat.two_pow_pos w
    omega
  have q := Int.ediv_neg_of_neg_of_pos hx p
  intro h
  rw [h, e0] at k
  omega
theorem st_done {U : sU} (h : Inv U) (x y : Int32) : Two (f_124 x y U) (f_211 x y) := by
  have h0 := h
  have e0 : (0 : Int32).toInt = 0 := rfl
  obtain ⟨nT, nM, h⟩ := h
  have n8 := h.1.1.2.2.1
  by_cases hx : 0 ≤ x.toInt ∧ x.toInt < nT
  case neg => exact ref_to h0 (w := 1) (by decide) (by unfold f_124; rw [tat_no h hx]) (by unfold f_211; rw [if_pos (f178_no (ref_n0 (by decide) h) n8 hx)])
  obtain ⟨e1, e2, e3, e4, _⟩ := tat_yes h hx
  obtain ⟨n, hM⟩ := MT_of h e2
  have t8 := hM.1
  have hT := hM.2.1
  have n1 := hT.2.1
  have n12 := hT.2.2.1
  have hl := hM.2.2.2.2.1
  have hw := hM.2.2.2.1
  have i8 : ib x 8 := ib_int.mpr (by omega)
  have p2 : 2 ^ n ≤ 4096 := Nat.pow_le_pow_right (n := 2) (by decide) n12
  have shl : (1 : Int32) <<< (Int32.ofNat n &&& 31) = Int32.ofNat (2 ^ n) := (by decide : ∀ n, n < 13 → (1 : Int32) <<< (Int32.ofNat n &&& 31) = Int32.ofNat (2 ^ n)) n (by omega)
  by_cases hy : 0 ≤ y.toInt ∧ y.toInt < ((2 ^ n : Nat) : Int)
  case neg =>
    refine ref_to h0 (w := 1) (by decide) ?_ ?_
    · have sh : ¬ y >>> (Int32.ofNat n &&& 31) = 0 := by
        by_cases y0 : y.toInt < 0
        · exact shr_neg y0 (by omega)
        · have ey : y = Int32.ofNat y.toNatClampNeg := i32_nat (by omega)
          have yl := y.toInt_lt
          have yc : y.toNatClampNeg < 2147483648 := by rw [clamp_int]; omega
          rw [ey, shr_nat yc (by omega)]
          intro q
          have := congrArg Int32.toNatClampNeg q
          have le : y.toNatClampNeg / 2 ^ n ≤ y.toNatClampNeg := Nat.div_le_self _ _
          rw [ofNat_clamp (by omega)] at this
          have this : y.toNatClampNeg / 2 ^ n = 0 := this
          rw [Nat.div_eq_zero_iff_lt (Nat.two_pow_pos n), clamp_int] at this
          omega
      unfold f_124
      rw [e1]
      dsimp only
      rw [hT.1, if_neg sh]
    · unfold f_211
      rw [if_neg (f178_yes (ref_n0 (by decide) h) n8 hx)]
      by_cases y0 : y < 0
      · rw [if_pos y0]
      · rw [if_neg y0, if_pos i8, f157_1 (by decide) (by decide), hM.2.2.1, shl]
        rw [i32_lt0] at y0
        rw [if_neg (by rw [i32_lt, ofNat_int (by omega)]; omega)]
  have ey : y = Int32.ofNat y.toNatClampNeg := i32_nat hy.1
  have yc : y.toNatClampNeg < 2 ^ n := by rw [clamp_int]; omega
  generalize hq : y.toNatClampNeg = q at *
  have sh : y >>> (Int32.ofNat n &&& 31) = 0 := by
    rw [ey, shr_nat (by omega) (by omega), Nat.div_eq_of_lt yc]
    rfl
  have goc : f_124 x y U = if y = 0 then some (f_157 6 U) else f_124_58 FU y (some (5 + 5 * x.toNatClampNeg)) 0 (f_35 218 (5 + 5 * x.toNatClampNeg) (U.1 (5 + 5 * x.toNatClampNeg) 4) (U.1 (5 + 5 * x.toNatClampNeg) 3) U) := by
    unfold f_124
    rw [e1]
    dsimp only
    rw [hT.1, if_pos sh]
  have ltm : y < Int32.ofNat (2 ^ n) := by rw [i32_lt, ofNat_int (by omega)]; omega
  by_cases hy0 : y = 0
  · refine ref_to h0 (w := 6) (by decide) (by rw [goc, if_pos hy0]) ?_
    unfold f_211
    rw [if_neg (f178_yes (ref_n0 (by decide) h) n8 hx), if_neg (by rw [i32_lt0]; omega), if_pos i8, f157_1 (by decide) (by decide), hM.2.2.1, shl, if_pos ltm, if_pos hy0]
  have q0 : q ≠ 0 := by
    intro e
    apply hy0
    rw [ey, e]
    rfl
  -- some truth of the set
  have hne : ∃ i, i < n ∧ q.testBit i = true := by
    by_cases hex : ∃ i, i < n ∧ q.testBit i = true
    · exact hex
    · exfalso
      apply q0
      apply Nat.eq_of_testBit_eq
      intro i
      rw [Nat.zero_testBit]
      by_cases hi : i < n
      · exact eq_false_of_ne_true (fun g => hex ⟨i, hi, g⟩)
      · exact Nat.testBit_lt_two_pow (Nat.lt_of_lt_of_le yc (Nat.pow_le_pow_right (by decide) (by omega)))
  generalize hW : (fun i => if q.testBit i then 0 else 1 : Nat → Nat) = W
  have hWl : ∀ i, i < n → W i < 12 := fun i _ => by rw [← hW]; dsimp only; split <;> omega
  have W0 : ∀ i, W i = 0 ↔ q.testBit i = true := by
    intro i
    rw [← hW]
    dsimp only
    by_cases e : q.testBit i = true
    · rw [if_pos e]; exact ⟨fun _ => e, fun _ => rfl⟩
    · rw [if_neg e]; exact ⟨fun g => by omega, fun g => absurd g e⟩
  have hu : (zub W n).testBit 0 = true := by
    obtain ⟨i, h1, h2⟩ := hne
    exact zub_test.mpr ⟨i, h1, (W0 i).mpr h2⟩
  refine two_i h0 (v := zlst (U.1 (5 + 5 * x.toNatClampNeg) 6) n (zow (gC U (5 + 5 * x.toNatClampNeg)) W 0) (fun i => gX U (5 + 5 * x.toNatClampNeg) i + (U.1 (5 + 5 * x.toNatClampNeg) 4).toInt)) ?_ ?_
  · rw [goc, if_neg hy0]
    have ha : rdA 218 := Or.inl rfl
    have s0 := Ss_take (U := U) (V := U) (a := 218) (T := 5 + 5 * x.toNatClampNeg) (n := n) (l := U.1 (5 + 5 * x.toNatClampNeg) 4) (w := U.1 (5 + 5 * x.toNatClampNeg) 3) (Same.rf U) ha hT hl.2 (by omega)
    obtain ⟨_, w0, _⟩ := take_ok (U := U) (a := 218) (T := 5 + 5 * x.toNatClampNeg) (n := n) (l := U.1 (5 + 5 * x.toNatClampNeg) 4) (w := U.1 (5 + 5 * x.toNatClampNeg) 3) (W := W) hT.2.2.2.2.2.2.2.2.2.2 hWl
    generalize hV0 : f_35 218 (5 + 5 * x.toNatClampNeg) (U.1 (5 + 5 * x.toNatClampNeg) 4) (U.1 (5 + 5 * x.toNatClampNeg) 3) U = V0 at *
    refine loop_ex (fun m (s : Int32 × sU) => f_124_58 m y (some (5 + 5 * x.toNatClampNeg)) s.1 s.2) (fun i s => s.1 = Int32.ofNat i ∧ Fr (Pw 218) V0 s.2 ∧ Wd s.2 218 n W i) (fun o => ∃ r V, o = some (r, V) ∧ Same U V ∧ r.toInt = zlst (U.1 (5 + 5 * x.toNatClampNeg) 6) n (zow (gC U (5 + 5 * x.toNatClampNeg)) W 0) (fun i => gX U (5 + 5 * x.toNatClampNeg) i + (U.1 (5 + 5 * x.toNatClampNeg) 4).toInt)) n ?_ ?_ n 0 FU (0, V0) (by omega) (by unfold FU; omega) ⟨rfl, Fr.rf _ _, w0⟩
    · rintro i ⟨c, Z⟩ m hi ⟨rfl, hF, hWd⟩
      dsimp only at hF hWd ⊢
      refine Or.inr ?_
      have sZ : Same U Z := s0.1.tr (hF.same (fun x j q => Pw_scr ha q))
      obtain ⟨p1, p2⟩ := put_ok ha n12 hi hWd
      rw [f_124_58]
      rw [sZ.lo (by omega : 5 + 5 * x.toNatClampNeg < 210), hT.1, if_neg (fun q => by have := (ofNat_le (by omega) (by omega)).mp q; omega), ofNat_succ]
      by_cases e : q.testBit i = true
      · have eW : W i = 0 := (W0 i).mpr e
        rw [if_pos (by rw [ey]; exact (bit_at (by omega) (by omega)).1.mpr e)]
        rw [eW] at p1 p2
        exact ⟨(Int32.ofNat (i + 1), f_38 218 (Int32.ofNat i) (Int32.ofNat 0) Z), ⟨rfl, hF.tr p2, p1⟩, rfl⟩
      · have eW : W i = 1 := by rw [← hW]; exact if_neg e
        rw [if_neg (by rw [ey]; exact fun g => e ((bit_at (by omega) (by omega)).1.mp g))]
        rw [eW] at p1 p2
        exact ⟨(Int32.ofNat (i + 1), f_38 218 (Int32.ofNat i) (Int32.ofNat 1) Z), ⟨rfl, hF.tr p2, p1⟩, rfl⟩
    · rintro ⟨c, Z⟩ m ⟨rfl, hF, hWd⟩
      dsimp only at hF hWd ⊢
      have sZ := Ss_fr s0 hF (fun x j q => ⟨Pw_scr ha q, by unfold Pw at q; omega⟩)
      obtain ⟨z1, z2, z3, z4, z5, z6, z7, z8, z9, z10, z11, z12⟩ := sZ
      have hR : Rd Z 218 (5 + 5 * x.toNatClampNeg) n W := ⟨ha, z3, Tk_same hT (fun x j hx => z1.lo hx), hWd, by rw [z5]; exact z9, by rw [z6]; exact z10, by rw [z7]; exact Or.inl rfl, by rw [z8]; exact z12⟩
      obtain ⟨V2, r1, r2, r3, r4⟩ := settle_ok hR
      have act := r3 0 (by omega) hu
      rw [f_124_58]
      rw [z1.lo (by omega : 5 + 5 * x.toNatClampNeg < 210), hT.1, if_pos ((ofNat_le (by omega) (by omega)).mpr (Nat.le_refl _)), r1, Option.bind_some]
      have g : f_46 218 0 V2 = V2.1 222 0 := by
        unfold f_46
        exact iget_k (b := 221) (k := 0) (by decide +kernel) (by omega)
      rw [g]
      refine ⟨_, V2, rfl, z1.tr (r2.same (fun x j q => Ps_scr ha q)), ?_⟩
      obtain ⟨eX, eC⟩ := same_XC z1 (T := 5 + 5 * x.toNatClampNeg) (by omega)
      have act : (V2.1 222 0).toInt = zA Z 218 (5 + 5 * x.toNatClampNeg) n W 0 := act
      rw [act]
      unfold zA gY
      rw [z7, zwt_0, eX, eC, z5, z1.lo (by omega : 5 + 5 * x.toNatClampNeg < 210)]
  · intro Y hY
    have hMY := MT_same hM hY
    have y4 : Y.1 290 x.toNatClampNeg = U.1 (5 + 5 * x.toNatClampNeg) 4 := by rw [hY.1 290 _ (by unfold scr; omega)]; exact hl.1
    obtain ⟨r, Z, r1, r2, r3⟩ := doneAt_m hMY e4 (b := U.1 (5 + 5 * x.toNatClampNeg) 4) (by omega) (by omega) hne
    unfold f_211
    rw [if_neg (f178_yes (InvN_same hY h).1.2.1 n8 hx), if_neg (by rw [i32_lt0]; omega), if_pos i8, hMY.2.2.1, shl, if_pos ltm, if_neg hy0, if_pos i8, y4, ey, r1]
    refine ⟨r, Z, rfl, r2.same, ?_⟩
    obtain ⟨eX, eC⟩ := same_XC hY (T := 5 + 5 * x.toNatClampNeg) (by omega)
    rw [r3, eX, eC, hY.lo (by omega : 5 + 5 * x.toNatClampNeg < 210)]
    refine zlst_congr (fun i _ => ?_) (fun i _ => rfl)
    unfold zow
    by_cases e : q.testBit i = true
    · rw [if_pos e, if_pos ((W0 i).mpr e)]
    · rw [if_neg e, if_neg (fun g => e ((W0 i).mp g))]
