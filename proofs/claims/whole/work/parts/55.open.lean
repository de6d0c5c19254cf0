/-! open(): a meaning at work -/
def mW (U : sU) (k i : Nat) : Nat := (U.1 (47 + 5 * k) i).toNatClampNeg
def mBl (U : sU) (k : Nat) : Int32 := if U.1 (45 + 5 * k) 2 = 2 then 1 else 0
def mCl (U : sU) (k : Nat) : Int := if U.1 (45 + 5 * k) 2 = 2 then (U.1 (45 + 5 * k) 4).toInt else 100
/-- what is best done at a word of a meaning -/
def mB (U : sU) (k T n w : Nat) : Int := zlst (U.1 T 6) n (zwt (mBl U k) (mCl U k) (zpc (zub (mW U k) n)) (gC U T) (mW U k) w) (fun i => gX U T i + (U.1 T 4).toInt)
def mA (U : sU) (k T n w : Nat) : Int := if U.1 (45 + 5 * k) 2 = 5 then (U.1 (49 + 5 * k) w).toInt else mB U k T n w
theorem Same.lo {U V : sU} (h : Same U V) {x j : Nat} (hx : x < 210) : V.1 x j = U.1 x j := h.1 x j (by unfold scr; omega)
theorem same_XC {U V : sU} (h : Same U V) {T : Nat} (hT : T + 4 < 210) : gX V T = gX U T ∧ gC V T = gC U T := by
  constructor
  · funext i; unfold gX; rw [h.lo (by omega)]
  · funext i; unfold gC; rw [h.lo (by omega)]
def Opn (U V : sU) (k T n : Nat) : Prop := Same U V ∧ Tk U T n ∧ Rdy V 218 T n (mW U k) (mA U k T n) ∧ Gd V 218 T n (mW U k) n ∧ V.1 218 7 = U.1 T 4 ∧ V.1 218 8 = U.1 T 3 ∧ V.1 218 11 = mBl U k ∧ (V.1 218 13).toInt = mCl U k ∧ V.1 218 12 = (if U.1 (45 + 5 * k) 2 = 5 then 1 else 0) ∧ ∀ w, zA V 218 T n (mW U k) w = mB U k T n w
theorem open_ok {U : sU} {nT nM : Nat} (h : InvN nT nM U) {x : Int32} (hx : 0 ≤ x.toInt ∧ x.toInt < nM) : ∃ t n V, t < nT ∧ U.1 (45 + 5 * x.toNatClampNeg) 3 = Int32.ofNat t ∧ f_40 218 2 x U = some (1, V) ∧ Opn U V x.toNatClampNeg (5 + 5 * t) n := by
  obtain ⟨e1, e2, e3, e4, n12⟩ := mat_yes h hx
  obtain ⟨q1, q2, q3, q4, ⟨t, q5, q6, q7⟩, q8⟩ := mg_facts h e2
  obtain ⟨n, hT⟩ := Tk_of h q5
  have n8 := h.1.1.2.2.1
  obtain ⟨_, _, _, _, _, qw, ql, _⟩ := tk_facts h q5
  have hT0 := hT
  obtain ⟨t1, t2, t3, t4, t5, t6, t7, t8, t9, t10, t11⟩ := hT
  generalize hk : x.toNatClampNeg = k at *
  have et : (Int32.ofNat t).toInt = t := ofNat_int (by omega)
  have et2 : (Int32.ofNat t).toNatClampNeg = t := ofNat_clamp (by omega)
  obtain ⟨a1, _⟩ := tat_yes h (x := Int32.ofNat t) (by omega)
  rw [et2] at a1
  rw [t1, ofNat_clamp (by omega)] at q7
  have hW : ∀ i, i < n → mW U k i < 12 := fun i hi => by
    have := q7 i hi
    unfold mW
    rw [clamp_int]
    omega
  have eW : ∀ i, i < n → U.1 (47 + 5 * k) i = Int32.ofNat (mW U k i) := fun i hi => i32_nat (by have := q7 i hi; omega)
  have ha : rdA 218 := Or.inl rfl
  obtain ⟨l1, l2, l3, l4⟩ := ln_rd ha
  have lm := ln_mg k (by omega)
  generalize hV0 : f_35 218 (5 + 5 * t) (U.1 (5 + 5 * t) 4) (U.1 (5 + 5 * t) 3) U = V0
  obtain ⟨v1, v2, v3, v4, v5, v6, v7, v8, v9, v10⟩ := take_ok (U := U) (a := 218) (T := 5 + 5 * t) (n := n) (l := U.1 (5 + 5 * t) 4) (w := U.1 (5 + 5 * t) 3) (W := mW U k) t11 hW
  have vs := take_same (U := U) (a := 218) (T := 5 + 5 * t) (l := U.1 (5 + 5 * t) 4) (w := U.1 (5 + 5 * t) 3) ha t11
  rw [hV0] at v1 v2 v3 v4 v5 v6 v7 v8 v9 v10 vs
  refine ⟨t, n, ?_⟩
  -- the last steps, from a store in which all words are put
  have fin : ∀ Z, Fr (Pw 218) V0 Z → Wd Z 218 n (mW U k) n → ∀ Y, Y = (if U.1 (45 + 5 * k) 2 = 2 then f_36 218 (Z.1 (45 + 5 * k) 4) Z else Z) → ∃ V, f_40_101 218 (some (45 + 5 * k)) Y = some (1, V) ∧ Opn U V k (5 + 5 * t) n := by
    intro Z hF hWd Y hY
    have sZ : Same U Z := vs.tr (hF.same (fun x j q => Pw_scr ha q))
    have z7 : Z.1 218 7 = U.1 (5 + 5 * t) 4 := (hF.1 _ _ (by unfold Pw; omega)).trans v3
    have z8 : Z.1 218 8 = U.1 (5 + 5 * t) 3 := (hF.1 _ _ (by unfold Pw; omega)).trans v4
    have z11 : Z.1 218 11 = 0 := (hF.1 _ _ (by unfold Pw; omega)).trans v5
    have z12 : Z.1 218 12 = 0 := (hF.1 _ _ (by unfold Pw; omega)).trans v6
    have z13 : Z.1 218 13 = 100 := (hF.1 _ _ (by unfold Pw; omega)).trans v7
    have e100 : (100 : Int32).toInt = 100 := rfl
    have zc : Z.1 (45 + 5 * k) 4 = U.1 (45 + 5 * k) 4 := sZ.lo (by omega)
    have yF : Fr (fun x j => x = 218 ∧ (j = 11 ∨ j = 13)) Z Y := by
      rw [hY]
      split
      · unfold f_36
        exact Fr.sI (Fr.sI (Fr.rf _ _) _ ⟨rfl, Or.inl rfl⟩) _ ⟨rfl, Or.inr rfl⟩
      · exact Fr.rf _ _
    have y11 : Y.1 218 11 = mBl U k := by
      rw [hY]
      unfold mBl
      split
      · unfold f_36
        rw [sI_nj (by omega), sI_at]
      · exact z11
    have y13 : (Y.1 218 13).toInt = mCl U k := by
      rw [hY]
      unfold mCl
      split
      · unfold f_36
        rw [sI_at, zc]
      · rw [z13, e100]
    have sY : Same U Y := sZ.tr (yF.same (fun x j q => by unfold scr; omega))
    have yl : ∀ j, j ≠ 11 → j ≠ 13 → Y.1 218 j = Z.1 218 j := fun j h1 h2 => yF.1 _ _ (by omega)
    have bl01 : mBl U k = 0 ∨ mBl U k = 1 := by unfold mBl; split; exact Or.inr rfl; exact Or.inl rfl
    have cl01 : 0 ≤ mCl U k ∧ mCl U k ≤ 100 := by
      unfold mCl
      split
      · rename_i e; exact (q4 e).2
      · omega
    have yWd : Wd Y 218 n (mW U k) n := ⟨hWd.1, fun i hi => (yF.1 _ _ (by omega)).trans (hWd.2.1 i hi), (yl 9 (by omega) (by omega)).trans hWd.2.2.1, (yl 10 (by omega) (by omega)).trans hWd.2.2.2⟩
    have yR : Rd Y 218 (5 + 5 * t) n (mW U k) := by
      refine ⟨ha, ((Fr_tk yF 218).trans (Fr_tk hF 218)).trans v1, Tk_same hT0 (fun x j hx => sY.lo hx), yWd, ?_, ?_, ?_, ?_⟩
      · rw [yl 7 (by omega) (by omega), z7]; exact ql.2
      · rw [yl 8 (by omega) (by omega), z8]; have := qw.2; omega
      · rw [y11]; exact bl01
      · rw [y13]; exact cl01
    obtain ⟨eX, eC⟩ := same_XC sY (T := 5 + 5 * t) (by omega)
    have zAB : ∀ w, zA Y 218 (5 + 5 * t) n (mW U k) w = mB U k (5 + 5 * t) n w := by
      intro w
      have e10 : (Y.1 218 10).toInt = zpc (zub (mW U k) n) := (Rd_un yR).2.2
      have e7 : Y.1 218 7 = U.1 (5 + 5 * t) 4 := (yl 7 (by omega) (by omega)).trans z7
      unfold zA mB gY
      rw [eX, eC, y11, y13, e10, e7, sY.lo (by omega : 5 + 5 * t < 210)]
    obtain ⟨V2, r1, r2, r3, r4⟩ := settle_ok yR
    obtain ⟨R1, R2, R3, R4, R5⟩ := Rd_fr yR r2 (by intro x j q; unfold Ps Pg at q; omega)
    have sV : Same U V2 := sY.tr (r2.same (fun x j q => Ps_scr ha q))
    have p : ∀ j, j ≠ 4 → j ≠ 5 → V2.1 218 j = Y.1 218 j := fun j h1 h2 => r2.1 _ _ (by unfold Ps Pg; omega)
    unfold f_40_101
    rw [r1, Option.bind_some]
    dsimp only
    rw [sV.lo (by omega : 45 + 5 * k < 210)]
    by_cases h5 : U.1 (45 + 5 * k) 2 = 5
    · rw [if_pos h5]
      refine ⟨_, rfl, ?_⟩
      generalize hX : icpy (218 + 3) (45 + 5 * k + 3) (sI V2 218 12 1) = X
      have xF : Fr (fun x j => x = 222 ∨ (x = 218 ∧ j = 12)) V2 X := by
        rw [← hX]
        unfold icpy iset
        refine ⟨fun x j hxj => ?_, rfl⟩
        dsimp only
        rw [if_neg (by omega)]
        by_cases e : x = 218
        · subst e; rw [sI_nj (by omega)]
        · rw [sI_ne e]
      have xA : ∀ w, w < 12 → X.1 222 w = U.1 (49 + 5 * k) w := by
        intro w hw
        rw [← hX]
        unfold icpy
        show (iset 222 _ (ln (218 + 3 + 1)) (sI V2 218 12 1)).1 222 w = _
        unfold iset
        dsimp only
        rw [l2, if_pos ⟨rfl, hw⟩, iget_k (by rw [show 45 + 5 * k + 3 + 1 = 45 + 5 * k + 3 + 1 from rfl]; exact lm.2) hw, sI_ne (by omega), sV.lo (by omega), show 45 + 5 * k + 3 + 1 = 49 + 5 * k by omega]
      obtain ⟨S1, S2, _⟩ := Rd_fr R1 xF (by intro x j q; omega)
      have x8 : ∀ j, j ≠ 12 → X.1 218 j = V2.1 218 j := fun j hj => xF.1 _ _ (by omega)
      refine ⟨sV.tr (xF.same (fun x j q => by unfold scr; omega)), hT0, ⟨S1, ?_, ?_⟩, ?_, ?_, ?_, ?_, ?_, ?_, ?_⟩
      · intro w hw _
        show (X.1 222 w).toInt = _
        rw [xA w hw]
        unfold mA
        rw [if_pos h5]
      · intro w hw
        unfold mA
        rw [if_pos h5]
        exact (q8 w hw).2
      · have e6 : ∀ x j, x ≠ 222 → ¬ (x = 218 ∧ j = 12) → X.1 x j = V2.1 x j := fun x j h1 h2 => xF.1 _ _ (by omega)
        have c1 : gC X (5 + 5 * t) = gC V2 (5 + 5 * t) := by funext i; unfold gC; rw [e6 _ _ (by omega) (by omega)]
        have c2 : gX X (5 + 5 * t) = gX V2 (5 + 5 * t) := by funext i; unfold gX; rw [e6 _ _ (by omega) (by omega)]
        have c3 : gY X 218 (5 + 5 * t) = gY V2 218 (5 + 5 * t) := by funext i; unfold gY; rw [c2, e6 218 7 (by omega) (by omega)]
        unfold Gd
        rw [c1, c3, e6 218 4 (by omega) (by omega), e6 218 5 (by omega) (by omega)]
        refine ⟨fun w hw => ?_, r4.2⟩
        rw [e6 (218 + 6) w (by omega) (by omega), e6 (218 + 8) w (by omega) (by omega)]
        exact r4.1 w hw
      · rw [x8 7 (by omega), p 7 (by omega) (by omega), yl 7 (by omega) (by omega)]; exact z7
      · rw [x8 8 (by omega), p 8 (by omega) (by omega), yl 8 (by omega) (by omega)]; exact z8
      · rw [x8 11 (by omega), p 11 (by omega) (by omega)]; exact y11
      · rw [x8 13 (by omega), p 13 (by omega) (by omega)]; exact y13
      · rw [if_pos h5, ← hX]
        unfold icpy iset
        dsimp only
        rw [if_neg (by omega), sI_at]
      · intro w
        rw [S2, R2, zAB]
    · rw [if_neg h5]
      refine ⟨_, rfl, sV, hT0, ⟨R1, ?_, ?_⟩, r4, ?_, ?_, ?_, ?_, ?_, ?_⟩
      · intro w hw hu
        rw [r3 w hw hu, zAB]
        unfold mA
        rw [if_neg h5]
      · intro w _
        unfold mA mB
        rw [if_neg h5]
        exact zlst_bd
      · rw [p 7 (by omega) (by omega), yl 7 (by omega) (by omega)]; exact z7
      · rw [p 8 (by omega) (by omega), yl 8 (by omega) (by omega)]; exact z8
      · rw [p 11 (by omega) (by omega)]; exact y11
      · rw [p 13 (by omega) (by omega)]; exact y13
      · rw [if_neg h5, p 12 (by omega) (by omega), yl 12 (by omega) (by omega)]; exact z12
      · intro w
        rw [R2, zAB]
  have loop : ∃ V, f_40_54 FU 218 (some (45 + 5 * k)) (some (5 + 5 * t)) 0 V0 = some (1, V) ∧ Opn U V k (5 + 5 * t) n := by
    refine loop_ex (fun m (s : Int32 × sU) => f_40_54 m 218 (some (45 + 5 * k)) (some (5 + 5 * t)) s.1 s.2) (fun i s => s.1 = Int32.ofNat i ∧ Fr (Pw 218) V0 s.2 ∧ Wd s.2 218 n (mW U k) i) (fun b => ∃ V, b = some (1, V) ∧ Opn U V k (5 + 5 * t) n) n ?_ ?_ n 0 FU (0, V0) (by omega) (by unfold FU; omega) ⟨rfl, Fr.rf _ _, v2⟩
    · rintro i ⟨c, Z⟩ m hi ⟨rfl, hF, hWd⟩
      dsimp only at hF hWd ⊢
      have sZ : Same U Z := vs.tr (hF.same (fun x j q => Pw_scr ha q))
      have g : iget (45 + 5 * k + 1) (Int32.ofNat i) Z = Int32.ofNat (mW U k i) := by
        rw [iget_k lm.1 (by omega), sZ.lo (by omega), show 45 + 5 * k + 1 + 1 = 47 + 5 * k by omega, eW i hi]
      obtain ⟨p1, p2⟩ := put_ok ha t3 hi hWd
      rw [f_40_54]
      rw [sZ.lo (by omega : 5 + 5 * t < 210), t1, if_neg (fun q => by have := (ofNat_le (by omega) (by omega)).mp q; omega), g, ofNat_succ]
      exact Or.inr ⟨(Int32.ofNat (i + 1), f_38 218 (Int32.ofNat i) (Int32.ofNat (mW U k i)) Z), ⟨rfl, hF.tr p2, p1⟩, rfl⟩
    · rintro ⟨c, Z⟩ m ⟨rfl, hF, hWd⟩
      dsimp only at hF hWd ⊢
      have sZ : Same U Z := vs.tr (hF.same (fun x j q => Pw_scr ha q))
      rw [f_40_54]
      rw [sZ.lo (by omega : 5 + 5 * t < 210), t1, if_pos ((ofNat_le (by omega) (by omega)).mpr (Nat.le_refl _)), sZ.lo (by omega : 45 + 5 * k < 210)]
      by_cases h2 : U.1 (45 + 5 * k) 2 = 2
      · rw [if_pos h2]
        exact fin Z hF hWd _ (by rw [if_pos h2])
      · rw [if_neg h2]
        exact fin Z hF hWd _ (by rw [if_neg h2])
  obtain ⟨V, w1, w2⟩ := loop
  refine ⟨V, q5, q6, ?_, w2⟩
  unfold f_40
  rw [e1]
  dsimp only
  rw [q6, a1]
  unfold f_40_22
  dsimp only
  rw [hV0]
  exact w1
theorem open_no {U : sU} {nT nM : Nat} (h : InvN nT nM U) {x : Int32} (hx : ¬ (0 ≤ x.toInt ∧ x.toInt < nM)) : f_40 218 2 x U = some (0, U) := by
  unfold f_40
  rw [mat_no h hx]
  rfl
