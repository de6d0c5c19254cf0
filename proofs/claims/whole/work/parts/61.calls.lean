/-! word, does, regret, thought -/
theorem f217_ref {V : sU} {w x : Int32} (hw : 1 ≤ w.toInt ∧ w.toInt ≤ 7) : f_217 x (f_157 w V).2 = f_217 x V := by
  have p : ∀ a j, a ≠ 209 → (f_157 w V).2.1 a j = V.1 a j := fun a j ha => f157_1 hw ha
  have e217 : ∀ m b i, f_217_4 m x b i (f_157 w V).2 = f_217_4 m x b i V := by
    intro m
    induction m with
    | zero => intro b i; rfl
    | succ m ih =>
      intro b i
      rw [f_217_4, f_217_4]
      simp only [p 298 _ (by decide), p 288 _ (by decide), p 301 _ (by decide), ih]
  unfold f_217
  rw [e217]
theorem f219_ref {V : sU} {w x y : Int32} (hw : 1 ≤ w.toInt ∧ w.toInt ≤ 7) : f_219 x y (f_157 w V).2 = f_219 x y V := by
  unfold f_219
  rw [f217_ref hw]
theorem st_word {U : sU} (h : Inv U) (x y : Int32) : Two (f_130 x y U) (f_221 x y) := by
  have h0 := h
  obtain ⟨nT, nM, h⟩ := h
  have n8 := h.1.1.2.2.2.1
  have t8' := h.1.1.2.2.1
  by_cases hx : 0 ≤ x.toInt ∧ x.toInt < nM
  case neg => exact ref_to h0 (w := 5) (by decide) (by unfold f_130; rw [open_no h hx, Option.bind_some]; rfl) (by unfold f_221; rw [if_pos (f180_no (ref_n1 h) n8 hx)])
  obtain ⟨t, n, V, ht, o1, o2, hM, ex⟩ := open_mg h hx
  have t8 := hM.2.1.1
  have n12 := hM.2.1.2.1.2.2.1
  have c12 : ib x 12 := ib_int.mpr (by omega)
  have hV := InvN_same o2.1 h
  have htk : tk V 218 = 5 + 5 * t := o2.2.2.1.1.2.1
  have hn : V.1 (5 + 5 * t) 2 = Int32.ofNat n := o2.2.2.1.1.2.2.1.1
  have go : f_130 x y U = if f_102 (5 + 5 * t) y V = 0 then some (f_157 5 V) else some (iget 219 y V, V) := by
    unfold f_130
    rw [o1, Option.bind_some]
    dsimp only
    rw [if_neg (by decide)]
    unfold f_44
    rw [htk]
    rfl
  by_cases hy : 0 ≤ y.toInt ∧ y.toInt < n
  case neg =>
    have hMV := MG_same hM o2.1
    have n0 : (f_157 5 V).2.1 280 0 = Int32.ofNat nT := (f157_1 (by decide) (by decide)).trans hV.1.2.1
    have p298 : (f_157 5 V).2.1 298 x.toNatClampNeg = Int32.ofNat t := (f157_1 (by decide) (by decide)).trans hMV.2.2.1
    have p288 : (f_157 5 V).2.1 288 t = Int32.ofNat n := (f157_1 (by decide) (by decide)).trans hMV.2.1.2.2.1
    refine ref_to ⟨nT, nM, hV⟩ (w := 5) (by decide) ?_ ?_
    · rw [go, if_pos ((f102_T hn n12).mpr hy)]
    · unfold f_221
      rw [if_neg (f180_yes (ref_n1 hV) n8 hx), if_pos c12, p298, f179_m n0 t8' ht p288 n12, if_neg hy, Option.bind_some, if_pos rfl]
  have ey : y = Int32.ofNat y.toNatClampNeg := i32_nat hy.1
  have yn : y.toNatClampNeg < n := by rw [clamp_int]; omega
  have hW := o2.2.2.1.1.2.2.2.1
  refine two_i h0 (v := mW U x.toNatClampNeg y.toNatClampNeg) ?_ ?_
  · rw [go, if_neg (fun q => (f102_T hn n12).mp q hy)]
    refine ⟨_, V, rfl, o2.1, ?_⟩
    have := hW.1 _ yn
    rw [ey, iget_k (b := 219) (by decide +kernel) (by omega), hW.2.1 _ yn, ← ey]
    exact ofNat_int (by omega)
  · intro Y hY
    have hMY := MG_same hM hY
    have hIY := InvN_same hY h
    obtain ⟨w1, w2⟩ := hMY.2.2.2.2.2.2.2.1 _ yn
    obtain ⟨m1, m2⟩ := mul12 (s := x) (i := y) (m := y.toNatClampNeg) ex (by rw [clamp_int]; omega) hM.1 (by omega)
    unfold f_221
    rw [if_neg (f180_yes hIY.1.2.2 n8 hx), if_pos c12, hMY.2.2.1, f179_m hIY.1.2.1 t8' ht hMY.2.1.2.2.1 n12, if_pos hy, Option.bind_some, if_neg (by decide), if_pos (ib_int.mpr (by omega)), m2, w1]
    refine ⟨_, Y, rfl, Same.rf Y, ?_⟩
    rw [mW_same hY hM.1, ofNat_int (by rw [mW_same hY hM.1] at w2; omega)]
theorem st_does {U : sU} (h : Inv U) (x y : Int32) : Two (f_132 x y U) (f_225 x y) := by
  have h0 := h
  obtain ⟨nT, nM, h⟩ := h
  have n8 := h.1.1.2.2.2.1
  by_cases hx : 0 ≤ x.toInt ∧ x.toInt < nM
  case neg => exact ref_to h0 (w := 5) (by decide) (by unfold f_132; rw [open_no h hx, Option.bind_some]; rfl) (by unfold f_225; rw [if_pos (f180_no (ref_n1 h) n8 hx)])
  obtain ⟨t, n, V, ht, o1, o2, hM, ex⟩ := open_mg h hx
  have t8 := hM.2.1.1
  have hV := InvN_same o2.1 h
  have hW := o2.2.2.1.1.2.2.2.1
  have go : f_132 x y U = if f_43 218 y V = 0 then some (f_157 5 V) else some (iget 221 y V, V) := by
    unfold f_132
    rw [o1, Option.bind_some]
    dsimp only
    rw [if_neg (by decide)]
    rfl
  by_cases hy : 0 ≤ y.toInt ∧ y.toInt < 12 ∧ (zub (mW U x.toNatClampNeg) n).testBit y.toNatClampNeg = true
  case neg =>
    refine ref_to ⟨nT, nM, hV⟩ (w := 5) (by decide) ?_ ?_
    · rw [go, if_pos ((f43_iff hW.1 hW.2.2.1).mpr hy)]
    · have hMV := MG_same hM o2.1
      have q : f_219 x y (f_157 5 V).2 = some 0 := by
        have e := f219_m hMV (y := y) ex
        rw [mW_same o2.1 hM.1, if_neg hy] at e
        rw [f219_ref (by decide)]
        exact e
      unfold f_225
      rw [if_neg (f180_yes (ref_n1 hV) n8 hx), q, Option.bind_some, if_pos rfl]
  have ey : y = Int32.ofNat y.toNatClampNeg := i32_nat hy.1
  have y12 : y.toNatClampNeg < 12 := by rw [clamp_int]; omega
  refine two_i h0 (v := mA U x.toNatClampNeg (5 + 5 * t) n y.toNatClampNeg) ?_ ?_
  · rw [go, if_neg (fun q => (f43_iff hW.1 hW.2.2.1).mp q hy)]
    refine ⟨_, V, rfl, o2.1, ?_⟩
    rw [ey, iget_k (b := 221) (by decide +kernel) y12, ← ey]
    exact o2.2.2.1.2.1 _ y12 hy.2.2
  · intro Y hY
    have hMY := MG_same hM hY
    have hIY := InvN_same hY h
    have q := f219_m hMY (y := y) ex
    rw [mW_same hY hM.1, if_pos hy] at q
    obtain ⟨r, Z, r1, r2, r3⟩ := actOf_m hMY ex y12 (by rw [mW_same hY hM.1]; exact hy.2.2)
    unfold f_225
    rw [if_neg (f180_yes hIY.1.2.2 n8 hx), q, Option.bind_some, if_neg (by decide), ey, r1]
    refine ⟨r, Z, rfl, r2.same, ?_⟩
    rw [r3, ← ey, mA_same hY hM.1 (by omega)]
theorem st_regret {U : sU} (h : Inv U) (x j y : Int32) : Two (f_134 x j y U) (f_231 x j y) := by
  have h0 := h
  obtain ⟨nT, nM, h⟩ := h
  have n8 := h.1.1.2.2.2.1
  have t8' := h.1.1.2.2.1
  by_cases hx : 0 ≤ x.toInt ∧ x.toInt < nM
  case neg => exact farJ_to h0 (w := 5) (by decide) (by unfold f_134; rw [open_no h hx, Option.bind_some]; rfl) (by unfold f_231; rw [if_pos (f180_no (farJ_n h).1 n8 hx)])
  obtain ⟨t, n, V, ht, o1, o2, hM, ex⟩ := open_mg h hx
  have t8 := hM.2.1.1
  have n12 := hM.2.1.2.1.2.2.1
  have c12 : ib x 12 := ib_int.mpr (by omega)
  have hV := InvN_same o2.1 h
  have hMV := MG_same hM o2.1
  have hW := o2.2.2.1.1.2.2.2.1
  have htk : tk V 218 = 5 + 5 * t := o2.2.2.1.1.2.1
  have hn : V.1 (5 + 5 * t) 2 = Int32.ofNat n := o2.2.2.1.1.2.2.1.1
  have go : f_134 x j y U = if f_102 (5 + 5 * t) j V = 0 then some ((f_158 5 V).1.toInt64, (f_158 5 V).2) else if f_43 218 y V = 0 then some ((f_158 5 V).1.toInt64, (f_158 5 V).2) else Option.bind (f_54 218 j y V) fun q => some (q, V) := by
    unfold f_134
    rw [o1, Option.bind_some]
    dsimp only
    rw [if_neg (by decide)]
    unfold f_44
    rw [htk]
  have far2 : (f_158 5 V).2 = (f_157 5 V).2 := by rw [far_eq (by decide)]
  have p298 : (f_158 5 V).2.1 298 x.toNatClampNeg = Int32.ofNat t := (f158_1 (by decide) (by decide)).trans hMV.2.2.1
  have p288 : (f_158 5 V).2.1 288 t = Int32.ofNat n := (f158_1 (by decide) (by decide)).trans hMV.2.1.2.2.1
  by_cases hj : 0 ≤ j.toInt ∧ j.toInt < n
  case neg =>
    refine farJ_to ⟨nT, nM, hV⟩ (w := 5) (by decide) ?_ ?_
    · rw [go, if_pos ((f102_T hn n12).mpr hj)]
    · unfold f_231
      rw [if_neg (f180_yes (farJ_n hV).1 n8 hx), if_pos c12, p298, f179_m (farJ_n hV).2 t8' ht p288 n12, if_neg hj, Option.bind_some, if_pos rfl]
  by_cases hy : 0 ≤ y.toInt ∧ y.toInt < 12 ∧ (zub (mW U x.toNatClampNeg) n).testBit y.toNatClampNeg = true
  case neg =>
    refine farJ_to ⟨nT, nM, hV⟩ (w := 5) (by decide) ?_ ?_
    · rw [go, if_neg (fun q => (f102_T hn n12).mp q hj), if_pos ((f43_iff hW.1 hW.2.2.1).mpr hy)]
    · have q : f_219 x y (f_158 5 V).2 = some 0 := by
        have e := f219_m hMV (y := y) ex
        rw [mW_same o2.1 hM.1, if_neg hy] at e
        rw [far2, f219_ref (by decide)]
        exact e
      unfold f_231
      rw [if_neg (f180_yes (farJ_n hV).1 n8 hx), if_pos c12, p298, f179_m (farJ_n hV).2 t8' ht p288 n12, if_pos hj, Option.bind_some, if_neg (by decide), q, Option.bind_some, if_pos rfl]
  have ey : y = Int32.ofNat y.toNatClampNeg := i32_nat hy.1
  have y12 : y.toNatClampNeg < 12 := by rw [clamp_int]; omega
  have ej : j = Int32.ofNat j.toNatClampNeg := i32_nat hj.1
  have jn : j.toNatClampNeg < n := by rw [clamp_int]; omega
  have l3 := hM.2.1.2.2.2.1
  refine two_j h0 (v := mD U x.toNatClampNeg t n (U.1 (5 + 5 * t) 3).toInt j.toNatClampNeg y.toNatClampNeg) ?_ ?_
  · obtain ⟨f1, f2, f3, f4, f5, f6, f7, f8⟩ := opn_facts t8 o2
    obtain ⟨r, r1, r2⟩ := spread_ok o2.2.2.1 jn y12 hy.2.2 (s := V.1 218 8) (by rw [f8]; omega)
    rw [← ej, ← ey] at r1
    rw [go, if_neg (fun q => (f102_T hn n12).mp q hj), if_neg (fun q => (f43_iff hW.1 hW.2.2.1).mp q hy)]
    unfold f_54
    rw [r1]
    refine ⟨r, V, rfl, o2.1, ?_⟩
    rw [r2, f1, f2, f3, f4, f5, f8]
    rfl
  · intro Y hY
    have hMY := MG_same hM hY
    have hIY := InvN_same hY h
    have q := f219_m hMY (y := y) ex
    rw [mW_same hY hM.1, if_pos hy] at q
    obtain ⟨Z, a1, a2⟩ := acts_m hMY ex
    have hMZ := MG_same hMY a2.1
    have it8 : ib (Int32.ofNat t) 8 := ib_ofNat (by omega) t8
    have et2 : (Int32.ofNat t).toNatClampNeg = t := ofNat_clamp (by omega)
    have z3 : Z.1 289 t = U.1 (5 + 5 * t) 3 := by rw [(hY.tr a2.1).1 289 t (by unfold scr; omega)]; exact l3.1
    obtain ⟨r, r1, r2, _⟩ := losesBy_m hMY a2 ex jn y12 (by rw [mW_same hY hM.1]; exact hy.2.2) (s := U.1 (5 + 5 * t) 3) (by omega)
    rw [← ej, ← ey] at r1
    unfold f_231
    rw [if_neg (f180_yes hIY.1.2.2 n8 hx), if_pos c12, hMY.2.2.1, f179_m hIY.1.2.1 t8' ht hMY.2.1.2.2.1 n12, if_pos hj, Option.bind_some, if_neg (by decide), q, Option.bind_some, if_neg (by decide), a1, Option.bind_some]
    simp only [if_pos c12, hMZ.2.2.1, if_pos it8, et2, z3, r1, Option.bind_some]
    refine ⟨r, Z, rfl, a2.1, ?_⟩
    rw [r2]
    obtain ⟨eX, eC⟩ := same_XC hY (T := 5 + 5 * t) (by omega)
    have eA : mA Y x.toNatClampNeg (5 + 5 * t) n = mA U x.toNatClampNeg (5 + 5 * t) n := by funext w; exact mA_same hY hM.1 (by omega)
    obtain ⟨b1, b2⟩ := mBC_same hY hM.1
    unfold mD
    rw [b1, b2, eX, eA, mW_same hY hM.1, hY.lo (by omega : 5 + 5 * t < 210)]
/-- the truths that have a word, as bits -/
def zth (W : Nat → Nat) (w : Nat) : Nat → Nat
  | 0 => 0
  | i + 1 => if W i = w then zth W w i ||| 2 ^ i else zth W w i
theorem zth_y {W : Nat → Nat} {w i : Nat} (h : W i = w) : zth W w (i + 1) = zth W w i ||| 2 ^ i := if_pos h
theorem zth_n {W : Nat → Nat} {w i : Nat} (h : ¬ W i = w) : zth W w (i + 1) = zth W w i := if_neg h
theorem zth_lt {W : Nat → Nat} {w : Nat} : ∀ {n : Nat}, n ≤ 12 → zth W w n < 4096 := by
  intro n
  induction n with
  | zero => intro _; exact (by decide : 0 < 4096)
  | succ n ih =>
    intro h
    unfold zth
    split
    · exact Nat.or_lt_two_pow (n := 12) (ih (by omega)) (Nat.pow_lt_pow_right (by decide) (by omega))
    · exact ih (by omega)
theorem zth_test {W : Nat → Nat} {w i : Nat} : ∀ {n : Nat}, (zth W w n).testBit i = true ↔ i < n ∧ W i = w := by
  intro n
  induction n with
  | zero =>
    unfold zth
    rw [Nat.zero_testBit]
    exact ⟨fun h => (by cases h), fun h => (by omega)⟩
  | succ n ih =>
    unfold zth
    by_cases e : W n = w
    · rw [if_pos e, Nat.testBit_or, Bool.or_eq_true, ih, Nat.testBit_two_pow, decide_eq_true_iff]
      constructor
      · rintro (⟨h1, h2⟩ | h)
        · exact ⟨by omega, h2⟩
        · subst h; exact ⟨by omega, e⟩
      · rintro ⟨h1, h2⟩
        by_cases hn : n = i
        · exact Or.inr hn
        · exact Or.inl ⟨by omega, h2⟩
    · rw [if_neg e, ih]
      constructor
      · rintro ⟨h1, h2⟩; exact ⟨by omega, h2⟩
      · rintro ⟨h1, h2⟩
        refine ⟨?_, h2⟩
        by_cases hn : n = i
        · subst hn; exact absurd h2 e
        · omega
theorem shl_k {i : Nat} (h : i < 12) : (1 : Int32) <<< (Int32.ofNat i &&& 31) = Int32.ofNat (2 ^ i) := by
  rw [shl1 (by rw [ofNat_int (by omega)]; omega), ofNat_clamp (by omega)]
theorem ofNat_ne {a b : Nat} (ha : a < 2147483648) (hb : b < 2147483648) (h : ¬ a = b) : ¬ Int32.ofNat a = Int32.ofNat b := fun q => h (by have := congrArg Int32.toNatClampNeg q; rwa [ofNat_clamp ha, ofNat_clamp hb] at this)
theorem or_z (a : Nat) : Int32.ofNat a ||| 0 = Int32.ofNat a := by
  have e : (0 : Int32) = Int32.ofNat 0 := rfl
  rw [e, ← or_ofNat, Nat.or_zero]
theorem st_thought {U : sU} (h : Inv U) (x y : Int32) : Two (f_131 x y U) (f_222 x y) := by
  have h0 := h
  obtain ⟨nT, nM, h⟩ := h
  have n8 := h.1.1.2.2.2.1
  by_cases hx : 0 ≤ x.toInt ∧ x.toInt < nM
  case neg => exact ref_to h0 (w := 5) (by decide) (by unfold f_131; rw [open_no h hx, Option.bind_some]; rfl) (by unfold f_222; rw [if_pos (f180_no (ref_n1 h) n8 hx)])
  obtain ⟨t, n, V, ht, o1, o2, hM, ex⟩ := open_mg h hx
  have t8 := hM.2.1.1
  have n12 := hM.2.1.2.1.2.2.1
  have hV := InvN_same o2.1 h
  have hMV := MG_same hM o2.1
  have hW := o2.2.2.1.1.2.2.2.1
  have htk : tk V 218 = 5 + 5 * t := o2.2.2.1.1.2.1
  have hn : V.1 (5 + 5 * t) 2 = Int32.ofNat n := o2.2.2.1.1.2.2.1.1
  have go : f_131 x y U = if f_43 218 y V = 0 then some (f_157 5 V) else Option.bind (f_47 218 y V) fun q => some (q, V) := by
    unfold f_131
    rw [o1, Option.bind_some]
    dsimp only
    rw [if_neg (by decide)]
  by_cases hy : 0 ≤ y.toInt ∧ y.toInt < 12 ∧ (zub (mW U x.toNatClampNeg) n).testBit y.toNatClampNeg = true
  case neg =>
    refine ref_to ⟨nT, nM, hV⟩ (w := 5) (by decide) ?_ ?_
    · rw [go, if_pos ((f43_iff hW.1 hW.2.2.1).mpr hy)]
    · have q : f_219 x y (f_157 5 V).2 = some 0 := by
        have e := f219_m hMV (y := y) ex
        rw [mW_same o2.1 hM.1, if_neg hy] at e
        rw [f219_ref (by decide)]
        exact e
      unfold f_222
      rw [if_neg (f180_yes (ref_n1 hV) n8 hx), q, Option.bind_some, if_pos rfl]
  have ey : y = Int32.ofNat y.toNatClampNeg := i32_nat hy.1
  have y12 : y.toNatClampNeg < 12 := by rw [clamp_int]; omega
  refine two_i h0 (v := (zth (mW U x.toNatClampNeg) y.toNatClampNeg n : Nat)) ?_ ?_
  · rw [go, if_neg (fun q => (f43_iff hW.1 hW.2.2.1).mp q hy)]
    have lp : f_47 218 y V = some (Int32.ofNat (zth (mW U x.toNatClampNeg) y.toNatClampNeg n)) := by
      unfold f_47
      refine loop_ex (fun m (s : Int32 × Int32) => f_47_4 m 218 y s.1 s.2 V) (fun i s => s.2 = Int32.ofNat i ∧ s.1 = Int32.ofNat (zth (mW U x.toNatClampNeg) y.toNatClampNeg i)) (fun o => o = some (Int32.ofNat (zth (mW U x.toNatClampNeg) y.toNatClampNeg n))) n ?_ ?_ n 0 FU (0, 0) (by omega) (by unfold FU; omega) ⟨rfl, rfl⟩
      · rintro i ⟨b, c⟩ m hi ⟨rfl, rfl⟩
        dsimp only
        refine Or.inr ?_
        rw [f_47_4, htk, hn, if_neg (fun q => by have := (ofNat_le (by omega) (by omega)).mp q; omega), iget_k (b := 219) (by decide +kernel) (by omega), hW.2.1 i hi, ofNat_succ]
        have wi := hW.1 i hi
        by_cases e : mW U x.toNatClampNeg i = y.toNatClampNeg
        · rw [if_pos (by rw [e, ← ey]), shl_k (by omega), ← or_ofNat]
          exact ⟨(Int32.ofNat (zth (mW U x.toNatClampNeg) y.toNatClampNeg i ||| 2 ^ i), Int32.ofNat (i + 1)), ⟨rfl, by dsimp only; rw [zth_y e]⟩, rfl⟩
        · rw [if_neg (by rw [ey]; exact ofNat_ne (by omega) (by omega) e), or_z]
          exact ⟨(Int32.ofNat (zth (mW U x.toNatClampNeg) y.toNatClampNeg i), Int32.ofNat (i + 1)), ⟨rfl, by dsimp only; rw [zth_n e]⟩, rfl⟩
      · rintro ⟨b, c⟩ m ⟨rfl, rfl⟩
        dsimp only
        rw [f_47_4, htk, hn, if_pos ((ofNat_le (by omega) (by omega)).mpr (Nat.le_refl _))]
    rw [lp]
    exact ⟨_, V, rfl, o2.1, ofNat_int (by have := zth_lt (W := mW U x.toNatClampNeg) (w := y.toNatClampNeg) n12; omega)⟩
  · intro Y hY
    have hMY := MG_same hM hY
    have hIY := InvN_same hY h
    have q := f219_m hMY (y := y) ex
    rw [mW_same hY hM.1, if_pos hy] at q
    have c12 : ib x 12 := ib_int.mpr (by omega)
    have it8 : ib (Int32.ofNat t) 8 := ib_ofNat (by omega) t8
    have et2 : (Int32.ofNat t).toNatClampNeg = t := ofNat_clamp (by omega)
    unfold f_222
    rw [if_neg (f180_yes hIY.1.2.2 n8 hx), q, Option.bind_some, if_neg (by decide)]
    have lp : f_222_29 FU x y 0 0 Y = some (Int32.ofNat (zth (mW U x.toNatClampNeg) y.toNatClampNeg n), Y) := by
      refine loop_ex (fun m (s : Int32 × Int32) => f_222_29 m x y s.1 s.2 Y) (fun i s => s.2 = Int32.ofNat i ∧ s.1 = Int32.ofNat (zth (mW U x.toNatClampNeg) y.toNatClampNeg i)) (fun o => o = some (Int32.ofNat (zth (mW U x.toNatClampNeg) y.toNatClampNeg n), Y)) n ?_ ?_ n 0 FU (0, 0) (by omega) (by unfold FU; omega) ⟨rfl, rfl⟩
      · rintro i ⟨b, c⟩ m hi ⟨rfl, rfl⟩
        dsimp only
        refine Or.inr ?_
        obtain ⟨w1, w2⟩ := hMY.2.2.2.2.2.2.2.1 i hi
        rw [mW_same hY hM.1] at w1 w2
        obtain ⟨m1, m2⟩ := mul12 (s := x) (i := Int32.ofNat i) ex (ofNat_int (by omega)) hM.1 (by omega)
        rw [f_222_29]
        simp only [if_pos c12, hMY.2.2.1, if_pos it8, et2, hMY.2.1.2.2.1]
        rw [if_neg (fun q => by have := (ofNat_le (by omega) (by omega)).mp q; omega), if_pos (ib_int.mpr (by omega)), m2, w1, ofNat_succ]
        by_cases e : mW U x.toNatClampNeg i = y.toNatClampNeg
        · rw [if_pos (by rw [e, ← ey]), shl_k (by omega), ← or_ofNat]
          exact ⟨(Int32.ofNat (zth (mW U x.toNatClampNeg) y.toNatClampNeg i ||| 2 ^ i), Int32.ofNat (i + 1)), ⟨rfl, by dsimp only; rw [zth_y e]⟩, rfl⟩
        · rw [if_neg (by rw [ey]; exact ofNat_ne (by omega) (by omega) e)]
          exact ⟨(Int32.ofNat (zth (mW U x.toNatClampNeg) y.toNatClampNeg i), Int32.ofNat (i + 1)), ⟨rfl, by dsimp only; rw [zth_n e]⟩, rfl⟩
      · rintro ⟨b, c⟩ m ⟨rfl, rfl⟩
        dsimp only
        rw [f_222_29]
        simp only [if_pos c12, hMY.2.2.1, if_pos it8, et2, hMY.2.1.2.2.1]
        rw [if_pos ((ofNat_le (by omega) (by omega)).mpr (Nat.le_refl _))]
    rw [lp]
    exact ⟨_, Y, rfl, Same.rf Y, ofNat_int (by have := zth_lt (W := mW U x.toNatClampNeg) (w := y.toNatClampNeg) n12; omega)⟩
