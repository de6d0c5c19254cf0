/-! runs, finest, bound, doors -/
theorem hDw_1 {U : sU} {t n : Nat} {W : Nat → Nat} {s : Int} : hDw U t n W 1 s = zD (U.1 (5 + 5 * t) 6) (hH U (5 + 5 * t) n W (U.1 (5 + 5 * t) 4).toInt) (gX U (5 + 5 * t)) s := by
  funext j w
  unfold hDw
  rw [if_pos rfl]
  rfl
theorem hDw_2 {U : sU} {t n : Nat} {W : Nat → Nat} {s : Int} : hDw U t n W 2 s = zD (U.1 (5 + 5 * t) 6) (hH U (5 + 5 * t) n W (U.1 (5 + 5 * t) 8).toInt) (gX U (5 + 5 * t)) (U.1 (5 + 5 * t) 9).toInt := by
  funext j w
  unfold hDw
  rw [if_neg (by decide), if_pos rfl]
  rfl
theorem std_1 {U : sU} {t n c : Nat} {s : Int32} {cl : Int32} : zstd U (5 + 5 * t) n (U.1 (5 + 5 * t) 4) s 0 cl c = zok n (hDw U t n (zW c) 1 s.toInt) (zW c) := by
  unfold zstd
  rw [zAc_0, hDw_1]
theorem std_2 {U : sU} {t n c : Nat} {s : Int} {cl : Int32} : zstd U (5 + 5 * t) n (U.1 (5 + 5 * t) 8) (U.1 (5 + 5 * t) 9) 0 cl c = zok n (hDw U t n (zW c) 2 s) (zW c) := by
  unfold zstd
  rw [zAc_0, hDw_2]
theorem hDw_same {U V : sU} (h : Same U V) {t n : Nat} (ht : t < 8) {W : Nat → Nat} {who : Int32} {s : Int} : hDw V t n W who s = hDw U t n W who s := by
  obtain ⟨eX, eC⟩ := same_XC h (T := 5 + 5 * t) (by omega)
  have eH : ∀ l : Int, hH V (5 + 5 * t) n W l = hH U (5 + 5 * t) n W l := fun l => by funext b; exact hH_same h (by omega)
  funext j w
  unfold hDw hD1 hD2
  rw [eX, eH, eH, h.lo (by omega : 5 + 5 * t < 210), h.lo (by omega : 5 + 5 * t < 210), h.lo (by omega : 5 + 5 * t < 210), h.lo (by omega : 5 + 5 * t < 210)]
/-- the runs that hold, by who hears -/
def zp (U : sU) (t n : Nat) (who : Int32) (s : Int) (c : Nat) : Bool := zal U (5 + 5 * t) c && zok n (hDw U t n (zW c) who s) (zW c)
theorem zp_same {U V : sU} (h : Same U V) {t n : Nat} (ht : t < 8) {who : Int32} {s : Int} : zp V t n who s = zp U t n who s := by
  funext c
  unfold zp zal
  rw [hDw_same h ht, h.lo (by omega : 5 + 5 * t < 210)]
def zcnt (p : Nat → Bool) : Nat → Nat
  | 0 => 0
  | k + 1 => zcnt p k + (if p k then 1 else 0)
theorem zcnt_y {p : Nat → Bool} {k : Nat} (h : p k = true) : zcnt p (k + 1) = zcnt p k + 1 := by
  show zcnt p k + (if p k then 1 else 0) = _
  rw [h, if_pos rfl]
theorem zcnt_n {p : Nat → Bool} {k : Nat} (h : p k = false) : zcnt p (k + 1) = zcnt p k := by
  show zcnt p k + (if p k then 1 else 0) = _
  rw [h, if_neg Bool.false_ne_true, Nat.add_zero]
theorem zcnt_le {p : Nat → Bool} : ∀ k, zcnt p k ≤ k := by
  intro k
  induction k with
  | zero => exact Nat.le_refl _
  | succ k ih => unfold zcnt; split <;> omega
theorem b01 {b : Bool} : ((if b then 1 else 0 : Int32) = 0) ↔ b = false := by
  cases b with
  | true => exact ⟨fun h => absurd h (by decide), fun h => by cases h⟩
  | false => exact ⟨fun _ => rfl, fun _ => rfl⟩
theorem runs_c {U : sU} {t n : Nat} (hM : MT U t n) : ∃ V, f_69 232 (5 + 5 * t) U = some (Int32.ofNat (zcnt (zp U t n 1 (U.1 (5 + 5 * t) 3).toInt) (2 ^ (n - 1))), V) ∧ Same U V := by
  have hT := hM.2.1
  have n12 := hT.2.2.1
  have hl := hM.2.2.2.2.1.2
  have hw := hM.2.2.2.1.2
  have t8 := hM.1
  have p2 := two_pow_le n12
  have s0 := Ss_take (U := U) (V := U) (a := 233) (T := 5 + 5 * t) (n := n) (l := U.1 (5 + 5 * t) 4) (w := U.1 (5 + 5 * t) 3) (Same.rf U) (Or.inr (Or.inl rfl)) hT hl (by omega)
  unfold f_69
  refine loop_ex (fun m (s : Int32 × Int32 × sU) => f_69_20 m 232 (5 + 5 * t) s.1 s.2.1 s.2.2) (fun k s => s.2.1 = Int32.ofNat k ∧ s.1 = Int32.ofNat (zcnt (zp U t n 1 (U.1 (5 + 5 * t) 3).toInt) k) ∧ Ss U s.2.2 233 (5 + 5 * t) n (U.1 (5 + 5 * t) 4) (U.1 (5 + 5 * t) 3) 0 100) (fun o => ∃ V, o = some (Int32.ofNat (zcnt (zp U t n 1 (U.1 (5 + 5 * t) 3).toInt) (2 ^ (n - 1))), V) ∧ Same U V) (2 ^ (n - 1)) ?_ ?_ (2 ^ (n - 1)) 0 FU (0, 0, _) (by omega) (by unfold FU; omega) ⟨rfl, rfl, s0⟩
  · rintro k ⟨b, c, Z⟩ m hk ⟨rfl, rfl, hS⟩
    dsimp only at hS ⊢
    refine Or.inr ?_
    have e2 : Z.1 (5 + 5 * t) 2 = Int32.ofNat n := (hS.1.lo (by omega)).trans hT.1
    have e5 : Z.1 (5 + 5 * t) 5 = U.1 (5 + 5 * t) 5 := hS.1.lo (by omega)
    rw [f_69_20, f103_eq e2 hT.2.1 n12, if_neg (by rw [i32_le, ofNat_int (by omega), ofNat_int (by omega)]; omega), f104_eq e5 (by omega), ofNat_succ]
    cases ha : zal U (5 + 5 * t) k with
    | false =>
      rw [if_pos (by rfl)]
      refine ⟨(Int32.ofNat (zcnt (zp U t n 1 (U.1 (5 + 5 * t) 3).toInt) k), Int32.ofNat (k + 1), Z), ⟨rfl, ?_, hS⟩, by rw [Int32.add_zero]⟩
      dsimp only
      rw [zcnt_n (by unfold zp; rw [ha]; rfl)]
    | true =>
      rw [if_neg (by decide)]
      obtain ⟨V2, r1, r2, r3, r4⟩ := stands_c hS (by omega : k < 2048)
      rw [std_1] at r1
      rw [r1, Option.bind_some]
      dsimp only
      cases hz : zok n (hDw U t n (zW k) 1 (U.1 (5 + 5 * t) 3).toInt) (zW k) with
      | false =>
        rw [if_pos (by rfl)]
        refine ⟨(Int32.ofNat (zcnt (zp U t n 1 (U.1 (5 + 5 * t) 3).toInt) k), Int32.ofNat (k + 1), V2), ⟨rfl, ?_, r3⟩, by rw [Int32.add_zero]⟩
        dsimp only
        rw [zcnt_n (by unfold zp; rw [hz, Bool.and_false])]
      | true =>
        rw [if_neg (by decide), ofNat_succ]
        refine ⟨(Int32.ofNat (zcnt (zp U t n 1 (U.1 (5 + 5 * t) 3).toInt) k + 1), Int32.ofNat (k + 1), V2), ⟨rfl, ?_, r3⟩, rfl⟩
        dsimp only
        rw [zcnt_y (by unfold zp; rw [ha, hz]; rfl)]
  · rintro ⟨b, c, Z⟩ m ⟨rfl, rfl, hS⟩
    dsimp only at hS ⊢
    have e2 : Z.1 (5 + 5 * t) 2 = Int32.ofNat n := (hS.1.lo (by omega)).trans hT.1
    rw [f_69_20, f103_eq e2 hT.2.1 n12, if_pos (by rw [i32_le]; omega)]
    exact ⟨Z, rfl, hS.1⟩
theorem runs_m {U : sU} {t n : Nat} (hM : MT U t n) {x : Int32} (hx : x.toInt = t) : ∃ V, f_243_18 FU x 0 0 U = some (Int32.ofNat (zcnt (zp U t n 1 (U.1 (5 + 5 * t) 3).toInt) (2 ^ (n - 1))), V) ∧ Same U V := by
  have hT := hM.2.1
  have n12 := hT.2.2.1
  have hw := hM.2.2.2.1.2
  have t8 := hM.1
  have p2 := two_pow_le n12
  have ex : x.toNatClampNeg = t := by rw [clamp_int]; omega
  have i8 : ib x 8 := ib_int.mpr (by omega)
  refine loop_ex (fun m (s : Int32 × Int32 × sU) => f_243_18 m x s.1 s.2.1 s.2.2) (fun k s => s.2.1 = Int32.ofNat k ∧ s.1 = Int32.ofNat (zcnt (zp U t n 1 (U.1 (5 + 5 * t) 3).toInt) k) ∧ Same U s.2.2) (fun o => ∃ V, o = some (Int32.ofNat (zcnt (zp U t n 1 (U.1 (5 + 5 * t) 3).toInt) (2 ^ (n - 1))), V) ∧ Same U V) (2 ^ (n - 1)) ?_ ?_ (2 ^ (n - 1)) 0 FU (0, 0, U) (by omega) (by unfold FU; omega) ⟨rfl, rfl, Same.rf U⟩
  · rintro k ⟨b, c, Z⟩ m hk ⟨rfl, rfl, hS⟩
    dsimp only at hS ⊢
    refine Or.inr ?_
    have hZ := MT_same hM hS
    have z289 : Z.1 289 t = U.1 (5 + 5 * t) 3 := by rw [hZ.2.2.2.1.1, hS.lo (by omega)]
    rw [f_243_18, f239_m hZ hx, Option.bind_some, if_neg (by rw [i32_le, ofNat_int (by omega), ofNat_int (by omega)]; omega), f238_m (U := U) hZ (by rw [hS.lo (by omega)]) hx (by omega), Option.bind_some, ofNat_succ]
    cases ha : zal U (5 + 5 * t) k with
    | false =>
      rw [if_pos (by rfl)]
      refine ⟨(Int32.ofNat (zcnt (zp U t n 1 (U.1 (5 + 5 * t) 3).toInt) k), Int32.ofNat (k + 1), Z), ⟨rfl, ?_, hS⟩, rfl⟩
      dsimp only
      rw [zcnt_n (by unfold zp; rw [ha]; rfl)]
    | true =>
      rw [if_neg (by decide), if_pos i8, ex, z289]
      obtain ⟨V2, r1, r2, _⟩ := holds_m hZ hx (by omega : k < 2048) (s := U.1 (5 + 5 * t) 3) (who := 1) (by omega) (Or.inl rfl)
      rw [hDw_same hS t8] at r1
      rw [r1, Option.bind_some]
      dsimp only
      cases hz : zok n (hDw U t n (zW k) 1 (U.1 (5 + 5 * t) 3).toInt) (zW k) with
      | false =>
        rw [if_pos (by rfl)]
        refine ⟨(Int32.ofNat (zcnt (zp U t n 1 (U.1 (5 + 5 * t) 3).toInt) k), Int32.ofNat (k + 1), V2), ⟨rfl, ?_, hS.tr r2⟩, rfl⟩
        dsimp only
        rw [zcnt_n (by unfold zp; rw [hz, Bool.and_false])]
      | true =>
        rw [if_neg (by decide), ofNat_succ]
        refine ⟨(Int32.ofNat (zcnt (zp U t n 1 (U.1 (5 + 5 * t) 3).toInt) k + 1), Int32.ofNat (k + 1), V2), ⟨rfl, ?_, hS.tr r2⟩, rfl⟩
        dsimp only
        rw [zcnt_y (by unfold zp; rw [ha, hz]; rfl)]
  · rintro ⟨b, c, Z⟩ m ⟨rfl, rfl, hS⟩
    dsimp only at hS ⊢
    have hZ := MT_same hM hS
    rw [f_243_18, f239_m hZ hx, Option.bind_some, if_pos (by rw [i32_le]; omega)]
    exact ⟨Z, rfl, hS⟩
theorem ref_n0 {V : sU} {nT nM : Nat} {w : Int32} (hw : 1 ≤ w.toInt ∧ w.toInt ≤ 7) (h : InvN nT nM V) : (f_157 w V).2.1 280 0 = Int32.ofNat nT := (f157_1 hw (by decide)).trans h.1.2.1
theorem st_runs {U : sU} (h : Inv U) (x : Int32) : Two (f_137 x U) (f_243 x) := by
  have h0 := h
  obtain ⟨nT, nM, h⟩ := h
  have n8 := h.1.1.2.2.1
  by_cases hx : 0 ≤ x.toInt ∧ x.toInt < nT
  case neg => exact ref_to h0 (w := 1) (by decide) (by unfold f_137; rw [tat_no h hx]) (by unfold f_243; rw [if_pos (f178_no (ref_n0 (by decide) h) n8 hx)])
  obtain ⟨e1, e2, e3, e4, _⟩ := tat_yes h hx
  obtain ⟨n, hM⟩ := MT_of h e2
  have p2 := two_pow_le hM.2.1.2.2.1
  have cl := zcnt_le (p := zp U x.toNatClampNeg n 1 (U.1 (5 + 5 * x.toNatClampNeg) 3).toInt) (2 ^ (n - 1))
  refine two_i h0 (v := (zcnt (zp U x.toNatClampNeg n 1 (U.1 (5 + 5 * x.toNatClampNeg) 3).toInt) (2 ^ (n - 1)) : Nat)) ?_ ?_
  · obtain ⟨V, v1, v2⟩ := runs_c hM
    unfold f_137
    rw [e1]
    dsimp only
    rw [v1]
    exact ⟨_, V, rfl, v2, ofNat_int (by omega)⟩
  · intro Y hY
    obtain ⟨Z, z1, z2⟩ := runs_m (MT_same hM hY) e4
    rw [zp_same hY hM.1, hY.lo (by omega : 5 + 5 * x.toNatClampNeg < 210)] at z1
    unfold f_243
    rw [if_neg (f178_yes (InvN_same hY h).1.2.1 n8 hx), z1]
    exact ⟨_, Z, rfl, z2, ofNat_int (by omega)⟩
/-- the finest of the first k + 1 -/
def zfi (p : Nat → Bool) : Nat → Nat
  | 0 => 0
  | k + 1 => if zpc (zfi p k) < zpc (k + 1) ∧ p (k + 1) = true then k + 1 else zfi p k
theorem zfi_y {p : Nat → Bool} {k : Nat} (h1 : zpc (zfi p k) < zpc (k + 1)) (h2 : p (k + 1) = true) : zfi p (k + 1) = k + 1 := if_pos ⟨h1, h2⟩
theorem zfi_n1 {p : Nat → Bool} {k : Nat} (h : ¬ zpc (zfi p k) < zpc (k + 1)) : zfi p (k + 1) = zfi p k := if_neg (fun q => h q.1)
theorem zfi_n2 {p : Nat → Bool} {k : Nat} (h : p (k + 1) = false) : zfi p (k + 1) = zfi p k := if_neg (fun q => by rw [h] at q; cases q.2)
theorem zfi_le {p : Nat → Bool} : ∀ k, zfi p k ≤ k := by
  intro k
  induction k with
  | zero => exact Nat.le_refl _
  | succ k ih => unfold zfi; split <;> omega
theorem finest_c {U V : sU} {t n : Nat} {l w : Int32} {p : Nat → Bool} (hM : MT U t n) (hS : Same U V) (hl : -500 ≤ l.toInt ∧ l.toInt ≤ 500) (hw : -600 ≤ w.toInt ∧ w.toInt ≤ 600) (hp : ∀ c, p c = (zal U (5 + 5 * t) c && zstd U (5 + 5 * t) n l w 0 100 c)) : ∃ Z, f_70 232 (5 + 5 * t) l w V = some (Int32.ofNat (zfi p (2 ^ (n - 1) - 1)), Z) ∧ Same U Z := by
  have hT := hM.2.1
  have n12 := hT.2.2.1
  have t8 := hM.1
  have p2 := two_pow_le n12
  have p1 := Nat.two_pow_pos (n - 1)
  have s0 := Ss_take (U := U) (V := V) (a := 233) (T := 5 + 5 * t) (n := n) (l := l) (w := w) hS (Or.inr (Or.inl rfl)) hT hl hw
  unfold f_70
  refine loop_ex (fun m (s : Int32 × Int32 × sU) => f_70_16 m 232 (5 + 5 * t) s.1 s.2.1 s.2.2) (fun k s => s.2.1 = Int32.ofNat (k + 1) ∧ s.1 = Int32.ofNat (zfi p k) ∧ Ss U s.2.2 233 (5 + 5 * t) n l w 0 100) (fun o => ∃ Z, o = some (Int32.ofNat (zfi p (2 ^ (n - 1) - 1)), Z) ∧ Same U Z) (2 ^ (n - 1) - 1) ?_ ?_ (2 ^ (n - 1) - 1) 0 FU (0, 1, _) (by omega) (by unfold FU; omega) ⟨rfl, rfl, s0⟩
  · rintro k ⟨b, c, Z⟩ m hk ⟨rfl, rfl, hS⟩
    dsimp only at hS ⊢
    refine Or.inr ?_
    have e2 : Z.1 (5 + 5 * t) 2 = Int32.ofNat n := (hS.1.lo (by omega)).trans hT.1
    have e5 : Z.1 (5 + 5 * t) 5 = U.1 (5 + 5 * t) 5 := hS.1.lo (by omega)
    have fl := zfi_le (p := p) k
    have q1 := zpc_le (k + 1)
    have q2 := zpc_le (zfi p k)
    rw [f_70_16, f103_eq e2 hT.2.1 n12, if_neg (by rw [i32_le, ofNat_int (by omega), ofNat_int (by omega)]; omega), f282_eq (by omega : k + 1 < 4096), f282_eq (by omega : zfi p k < 4096)]
    by_cases hf : zpc (zfi p k) < zpc (k + 1)
    · rw [if_neg (by rw [i32_le, ofNat_int (by omega), ofNat_int (by omega)]; omega)]
      unfold f_70_43
      rw [if_neg (by decide), f104_eq e5 (by omega), ofNat_succ]
      cases ha : zal U (5 + 5 * t) (k + 1) with
      | false =>
        rw [if_pos (by rfl)]
        exact ⟨(Int32.ofNat (zfi p k), Int32.ofNat (k + 1 + 1), Z), ⟨rfl, by dsimp only; rw [zfi_n2 (by rw [hp, ha]; rfl)], hS⟩, rfl⟩
      | true =>
        rw [if_neg (by decide)]
        obtain ⟨V2, r1, r2, r3, r4⟩ := stands_c hS (by omega : k + 1 < 2048)
        rw [r1, Option.bind_some]
        dsimp only
        cases hz : zstd U (5 + 5 * t) n l w 0 100 (k + 1) with
        | false =>
          rw [if_pos (by rfl)]
          exact ⟨(Int32.ofNat (zfi p k), Int32.ofNat (k + 1 + 1), V2), ⟨rfl, by dsimp only; rw [zfi_n2 (by rw [hp, hz, Bool.and_false])], r3⟩, rfl⟩
        | true =>
          rw [if_neg (by decide)]
          exact ⟨(Int32.ofNat (k + 1), Int32.ofNat (k + 1 + 1), V2), ⟨rfl, by dsimp only; rw [zfi_y hf (by rw [hp, ha, hz]; rfl)], r3⟩, rfl⟩
    · rw [if_pos (by rw [i32_le, ofNat_int (by omega), ofNat_int (by omega)]; omega)]
      unfold f_70_43
      rw [if_pos rfl, ofNat_succ]
      exact ⟨(Int32.ofNat (zfi p k), Int32.ofNat (k + 1 + 1), Z), ⟨rfl, by dsimp only; rw [zfi_n1 hf], hS⟩, rfl⟩
  · rintro ⟨b, c, Z⟩ m ⟨rfl, rfl, hS⟩
    dsimp only at hS ⊢
    have e2 : Z.1 (5 + 5 * t) 2 = Int32.ofNat n := (hS.1.lo (by omega)).trans hT.1
    rw [f_70_16, f103_eq e2 hT.2.1 n12, if_pos (by rw [i32_le, ofNat_int (by omega), ofNat_int (by omega)]; omega)]
    exact ⟨Z, rfl, hS.1⟩
theorem finest_m {U : sU} {t n : Nat} {who : Int32} (hM : MT U t n) {x : Int32} (hx : x.toInt = t) (hwho : who = 1 ∨ ((who = 2 ∨ who = 3) ∧ U.1 (5 + 5 * t) 7 = 1)) : ∃ Z, f_244 x who U = some (Int32.ofNat (zfi (zp U t n who (U.1 (5 + 5 * t) 3).toInt) (2 ^ (n - 1) - 1)), Z) ∧ Same U Z := by
  have hT := hM.2.1
  have n12 := hT.2.2.1
  have n1 := hT.2.1
  have hw := hM.2.2.2.1.2
  have hwd := hT.2.2.2.2.2.2.1
  have t8 := hM.1
  have p2 := two_pow_le n12
  have p1 := Nat.two_pow_pos (n - 1)
  have ex : x.toNatClampNeg = t := by rw [clamp_int]; omega
  have i8 : ib x 8 := ib_int.mpr (by omega)
  have e0 : (0 : Int32).toInt = 0 := rfl
  -- one round
  have rnd : ∀ (k m : Nat) (most best : Int32) (mo : Nat) (Z : sU), k < 2 ^ (n - 1) → mo ≤ 13 → most = Int32.ofNat mo → Same U Z → ∃ V2, Same U V2 ∧ f_244_8 (m + 1) x who most best (Int32.ofNat k) Z = if mo < zpc k + 1 ∧ zp U t n who (U.1 (5 + 5 * t) 3).toInt k = true then f_244_8 m x who (Int32.ofNat (zpc k + 1)) (Int32.ofNat k) (Int32.ofNat (k + 1)) V2 else f_244_8 m x who most best (Int32.ofNat (k + 1)) V2 := by
    intro k m most best mo Z hk hmo hm hS
    subst hm
    have hZ := MT_same hM hS
    have z289 : Z.1 289 t = U.1 (5 + 5 * t) 3 := by rw [hZ.2.2.2.1.1, hS.lo (by omega)]
    have z291 : Z.1 291 t = U.1 (5 + 5 * t) 5 := by rw [hZ.2.2.2.2.2.1, hS.lo (by omega)]
    have q1 := zpc_le k
    rw [f_244_8, f239_m hZ hx, Option.bind_some, if_neg (by rw [i32_le, ofNat_int (by omega), ofNat_int (by omega)]; omega), f214_eq (by omega : k < 4096), Option.bind_some, ofNat_succ, ofNat_succ]
    by_cases hf : mo < zpc k + 1
    · rw [if_neg (by rw [i32_le, ofNat_int (by omega), ofNat_int (by omega)]; omega)]
      simp only [if_pos i8, ex, z291, z289]
      by_cases ha : (zpc k : Int) + 1 ≤ (U.1 (5 + 5 * t) 5).toInt
      · rw [if_neg (by rw [i32_lt, ofNat_int (by omega)]; omega)]
        obtain ⟨V2, r1, r2, _⟩ := holds_m hZ hx (by omega : k < 2048) (s := U.1 (5 + 5 * t) 3) (who := who) (by omega) (by rw [hS.lo (by omega : 5 + 5 * t < 210)]; exact hwho)
        rw [hDw_same hS t8] at r1
        rw [r1, Option.bind_some]
        refine ⟨V2, hS.tr r2, ?_⟩
        dsimp only
        cases hz : zok n (hDw U t n (zW k) who (U.1 (5 + 5 * t) 3).toInt) (zW k) with
        | false =>
          rw [if_pos (by rfl), if_neg (fun q => by have := q.2; unfold zp at this; rw [hz, Bool.and_false] at this; cases this)]
        | true =>
          rw [if_neg (by decide), if_pos ⟨hf, by unfold zp zal; rw [hz, decide_eq_true ha]; rfl⟩]
      · rw [if_pos (by rw [i32_lt, ofNat_int (by omega)]; omega)]
        exact ⟨Z, hS, by rw [if_neg (fun q => by have := q.2; unfold zp zal at this; rw [decide_eq_false ha] at this; cases this)]⟩
    · rw [if_pos (by rw [i32_le, ofNat_int (by omega), ofNat_int (by omega)]; omega)]
      exact ⟨Z, hS, by rw [if_neg (fun q => hf q.1)]⟩
  have p0 : zp U t n who (U.1 (5 + 5 * t) 3).toInt 0 = true := by
    unfold zp zal
    rw [zok_one n1 n12, decide_eq_true (by rw [(by decide : zpc 0 = 0)]; omega)]
    rfl
  unfold f_244
  obtain ⟨k0, hk0⟩ : ∃ q, FU = q + 1 := ⟨4999, rfl⟩
  rw [hk0]
  obtain ⟨V1, hV1, r1⟩ := rnd 0 k0 0 (-1) 0 U (by omega) (by omega) rfl (Same.rf U)
  rw [if_pos ⟨by rw [(by decide : zpc 0 = 0)]; omega, p0⟩, (by decide : zpc 0 = 0)] at r1
  have r1 : f_244_8 (k0 + 1) x who 0 (-1) 0 U = f_244_8 k0 x who (Int32.ofNat 1) (Int32.ofNat 0) (Int32.ofNat 1) V1 := r1
  rw [r1]
  refine loop_ex (fun m (s : Int32 × Int32 × Int32 × sU) => f_244_8 m x who s.1 s.2.1 s.2.2.1 s.2.2.2) (fun k s => s.2.2.1 = Int32.ofNat (k + 1) ∧ s.1 = Int32.ofNat (zpc (zfi (zp U t n who (U.1 (5 + 5 * t) 3).toInt) k) + 1) ∧ s.2.1 = Int32.ofNat (zfi (zp U t n who (U.1 (5 + 5 * t) 3).toInt) k) ∧ Same U s.2.2.2) (fun o => ∃ Z, o = some (Int32.ofNat (zfi (zp U t n who (U.1 (5 + 5 * t) 3).toInt) (2 ^ (n - 1) - 1)), Z) ∧ Same U Z) (2 ^ (n - 1) - 1) ?_ ?_ (2 ^ (n - 1) - 1) 0 k0 (Int32.ofNat 1, Int32.ofNat 0, Int32.ofNat 1, V1) (by omega) (by unfold FU at hk0; omega) ⟨rfl, by show Int32.ofNat 1 = Int32.ofNat (zpc 0 + 1); rw [(by decide : zpc 0 = 0)], rfl, hV1⟩
  · rintro k ⟨mo, b, c, Z⟩ m hk ⟨rfl, rfl, rfl, hS⟩
    dsimp only at hS ⊢
    refine Or.inr ?_
    have q2 := zpc_le (zfi (zp U t n who (U.1 (5 + 5 * t) 3).toInt) k)
    obtain ⟨V2, hV2, r⟩ := rnd (k + 1) m (Int32.ofNat (zpc (zfi (zp U t n who (U.1 (5 + 5 * t) 3).toInt) k) + 1)) (Int32.ofNat (zfi (zp U t n who (U.1 (5 + 5 * t) 3).toInt) k)) (zpc (zfi (zp U t n who (U.1 (5 + 5 * t) 3).toInt) k) + 1) Z (by omega) (by omega) rfl hS
    rw [r]
    by_cases hf : zpc (zfi (zp U t n who (U.1 (5 + 5 * t) 3).toInt) k) < zpc (k + 1)
    · cases ha : zp U t n who (U.1 (5 + 5 * t) 3).toInt (k + 1) with
      | true =>
        rw [if_pos ⟨by omega, rfl⟩]
        exact ⟨(Int32.ofNat (zpc (k + 1) + 1), Int32.ofNat (k + 1), Int32.ofNat (k + 1 + 1), V2), ⟨rfl, by dsimp only; rw [zfi_y hf ha], by dsimp only; rw [zfi_y hf ha], hV2⟩, rfl⟩
      | false =>
        rw [if_neg (fun q => by cases q.2)]
        exact ⟨(Int32.ofNat (zpc (zfi (zp U t n who (U.1 (5 + 5 * t) 3).toInt) k) + 1), Int32.ofNat (zfi (zp U t n who (U.1 (5 + 5 * t) 3).toInt) k), Int32.ofNat (k + 1 + 1), V2), ⟨rfl, by dsimp only; rw [zfi_n2 ha], by dsimp only; rw [zfi_n2 ha], hV2⟩, rfl⟩
    · rw [if_neg (fun q => hf (by have := q.1; omega))]
      exact ⟨(Int32.ofNat (zpc (zfi (zp U t n who (U.1 (5 + 5 * t) 3).toInt) k) + 1), Int32.ofNat (zfi (zp U t n who (U.1 (5 + 5 * t) 3).toInt) k), Int32.ofNat (k + 1 + 1), V2), ⟨rfl, by dsimp only; rw [zfi_n1 hf], by dsimp only; rw [zfi_n1 hf], hV2⟩, rfl⟩
  · rintro ⟨mo, b, c, Z⟩ m ⟨rfl, rfl, rfl, hS⟩
    dsimp only at hS ⊢
    have hZ := MT_same hM hS
    rw [f_244_8, f239_m hZ hx, Option.bind_some, if_pos (by rw [i32_le, ofNat_int (by omega), ofNat_int (by omega)]; omega)]
    exact ⟨Z, rfl, hS⟩
