/-! the reference: a middleman's runs -/
theorem zs_used {n b : Nat} {W : Nat → Nat} (hW : Bw n W b) (f : Nat → Int) : zs (fun v => if (zub W n).testBit v then f v else 0) 12 = zs f b := by
  have b12 := hW.2.1
  have h1 : ∀ k, k ≤ b → zs (fun v => if (zub W n).testBit v then f v else 0) k = zs f k := by
    intro k hk
    exact zs_congr (fun i hi => if_pos ((Bw_used hW).mpr (by omega)))
  have h2 : ∀ m, zs (fun v => if (zub W n).testBit v then f v else 0) (b + m) = zs f b := by
    intro m
    induction m with
    | zero => exact h1 b (Nat.le_refl _)
    | succ m ih =>
      have e : zs (fun v => if (zub W n).testBit v then f v else 0) (b + (m + 1)) = zs (fun v => if (zub W n).testBit v then f v else 0) (b + m) + (if (zub W n).testBit (b + m) then f (b + m) else 0) := rfl
      rw [e, ih, if_neg (fun q => by have := (Bw_used hW).mp q; omega), Int.add_zero]
  have := h2 (12 - b)
  rwa [show b + (12 - b) = 12 by omega] at this
/-- blurs(): what is done at each block -/
theorem blurs_m {M : sU} {t n c : Nat} (h : MT M t n) {x p : Int32} (hx : x.toInt = t) (hp : 0 ≤ p.toInt ∧ p.toInt ≤ 100) (hB : Bk M n (zW c) (zW c (n - 1) + 1)) : ∃ V, f_253 x p M = some V ∧ Same M V ∧ Bk V n (zW c) (zW c (n - 1) + 1) ∧ ∀ w, w < zW c (n - 1) + 1 → (V.1 308 w).toInt = zAc M (5 + 5 * t) n (M.1 (5 + 5 * t) 4) 1 p c w := by
  have h0 := h
  have hW := Bw_W (c := c) h.2.1.2.1 h.2.1.2.2.1
  obtain ⟨t8, ⟨t1, t2, t3, t4, t5, t6, t7, _, t9, t10, t11⟩, h1, h2, h3, h4, h5, h6, h7, h8, h9⟩ := h
  have ex : x.toNatClampNeg = t := by rw [clamp_int]; omega
  have i8 : ib x 8 := ib_int.mpr (by omega)
  have loT : 5 + 5 * t < 210 := by omega
  have e100 : (100 : Int64).toInt = 100 := rfl
  have b12 := hW.2.1
  generalize hb : zW c (n - 1) + 1 = b at *
  have i96 : ∀ i, i < n → ib (12 * x + Int32.ofNat i) 96 ∧ (12 * x + Int32.ofNat i).toNatClampNeg = 12 * t + i := by
    intro i hi
    obtain ⟨m1, m2⟩ := mul12 (s := x) (i := Int32.ofNat i) hx (ofNat_int (by omega)) (by omega) (by omega)
    exact ⟨ib_int.mpr (by omega), m2⟩
  have pos : 1 ≤ b := hW.1
  unfold f_253
  refine loop_ex (fun m (s : Int32 × sU) => f_253_2 m x p s.1 s.2) (fun k s => s.1 = Int32.ofNat k ∧ Same M s.2 ∧ Bk s.2 n (zW c) b ∧ ∀ w, w < k → (s.2.1 308 w).toInt = zAc M (5 + 5 * t) n (M.1 (5 + 5 * t) 4) 1 p c w) (fun o => ∃ V, o = some V ∧ Same M V ∧ Bk V n (zW c) b ∧ ∀ w, w < b → (V.1 308 w).toInt = zAc M (5 + 5 * t) n (M.1 (5 + 5 * t) 4) 1 p c w) b ?_ ?_ b 0 FU (0, M) (by omega) (by unfold FU; omega) ⟨rfl, Same.rf M, hB, fun w hw => by omega⟩
  · rintro k ⟨kc, Z⟩ m hk ⟨rfl, hS, hBZ, hz⟩
    dsimp only at hS hBZ hz ⊢
    refine Or.inr ?_
    rw [f_253_2, hBZ.2, if_neg (fun q => by have := (ofNat_le (by omega) (by omega)).mp q; omega)]
    refine loop_ex (fun m' (s : Int32 × sU) => f_253_13 (fun v1 v2 v3 U => f_253_2 m v1 v2 v3 U) m' x p (Int32.ofNat k) s.1 s.2) (fun i s => s.1 = Int32.ofNat i ∧ FrW Z s.2 ∧ ∀ j, j < i → (s.2.2.1 305 j).toInt = zwt 1 p.toInt (b : Int) (gC M (5 + 5 * t)) (zW c) k j) (fun o => ∃ s' : Int32 × sU, (s'.1 = Int32.ofNat (k + 1) ∧ Same M s'.2 ∧ Bk s'.2 n (zW c) b ∧ ∀ w, w < k + 1 → (s'.2.1 308 w).toInt = zAc M (5 + 5 * t) n (M.1 (5 + 5 * t) 4) 1 p c w) ∧ o = f_253_2 m x p s'.1 s'.2) n ?_ ?_ n 0 FU (0, Z) (by omega) (by unfold FU; omega) ⟨rfl, ⟨rfl, fun _ _ _ => rfl⟩, fun i hi => by omega⟩
    · rintro i ⟨ic, Y⟩ m' hi ⟨rfl, hF, hy⟩
      dsimp only at hF hy ⊢
      refine Or.inr ?_
      obtain ⟨j1, j2⟩ := i96 i hi
      have bC := (t5 i hi).2.2
      have wi := hW.2.2.1 i hi
      have y288 : Y.1 288 t = Int32.ofNat n := by rw [hF.1]; exact (MT_same h0 hS).2.2.1
      have y307 : Y.1 307 i = Int32.ofNat (zW c i) := by rw [hF.1]; exact hBZ.1 i hi
      have y48 : Y.1 280 48 = Int32.ofNat b := by rw [hF.1]; exact hBZ.2
      have cI : (Y.1 297 (12 * t + i)).toInt64.toInt = gC M (5 + 5 * t) i := by
        rw [w64, hF.1, ((MT_same h0 hS).2.2.2.2.2.2.2.2.2.2 i hi).2]
        unfold gC
        rw [hS.lo (by omega)]
      have i12 : ib (Int32.ofNat i) 12 := ib_ofNat (by omega) (by omega)
      have c12 : (Int32.ofNat i).toNatClampNeg = i := ofNat_clamp (by omega)
      have step : ∀ v : Int64, v.toInt = zwt 1 p.toInt (b : Int) (gC M (5 + 5 * t)) (zW c) k i → ∃ s' : Int32 × sU, (s'.1 = Int32.ofNat (i + 1) ∧ FrW Z s'.2 ∧ ∀ j, j < i + 1 → (s'.2.2.1 305 j).toInt = zwt 1 p.toInt (b : Int) (gC M (5 + 5 * t)) (zW c) k j) ∧ f_253_13 (fun v1 v2 v3 U => f_253_2 m v1 v2 v3 U) m' x p (Int32.ofNat k) (Int32.ofNat i + 1) (sJ Y 305 i v) = f_253_13 (fun v1 v2 v3 U => f_253_2 m v1 v2 v3 U) m' x p (Int32.ofNat k) s'.1 s'.2 := by
        intro v hv
        refine ⟨(Int32.ofNat (i + 1), sJ Y 305 i v), ⟨rfl, hF.sJ _ _, fun j hj => ?_⟩, by rw [ofNat_succ]⟩
        dsimp only
        by_cases e : j = i
        · subst e; rw [sJ_at]; exact hv
        · rw [sJ_nj e]; exact hy j (by omega)
      rw [f_253_13]
      simp only [if_pos i8, ex, y288, if_pos j1, j2, if_pos i12, c12, y307, y48]
      rw [if_neg (fun q => by have := (ofNat_le (by omega) (by omega)).mp q; omega)]
      have eb : (Int32.ofNat b).toInt = b := ofNat_int (by omega)
      have z64 : ((0 : Int32).toInt64).toInt = 0 := rfl
      by_cases e : zW c i = k
      · rw [if_pos (by rw [e])]
        refine step _ ?_
        have ez : zow (gC M (5 + 5 * t)) (zW c) k i = gC M (5 + 5 * t) i := if_pos e
        have pr := pbn hp.1 hp.2 (b := (b : Int)) (B := 12) (by omega) (by omega)
        have q1 : (p * Int32.ofNat b).toInt64.toInt = p.toInt * b := by rw [w64, m32 (by rw [eb]; omega) (by rw [eb]; omega), eb]
        have q2 : ((p * Int32.ofNat b).toInt64 + 100).toInt = p.toInt * b + 100 := by rw [a64 (by rw [q1, e100]; omega) (by rw [q1, e100]; omega), q1, e100]
        have q3 : ((p * Int32.ofNat b).toInt64 + 100 - p.toInt64).toInt = p.toInt * b + 100 - p.toInt := by rw [s64 (by rw [q2, w64]; omega) (by rw [q2, w64]; omega), q2, w64]
        have pr2 := pbn (a := gC M (5 + 5 * t) i) (b := p.toInt * b + 100 - p.toInt) (A := 99) (B := 1400) (by omega) (by omega) (by omega) (by omega)
        rw [m64 (by rw [cI, q3]; omega) (by rw [cI, q3]; omega), cI, q3]
        unfold zwt zb
        rw [if_neg (by decide), ez, Int.mul_sub, Int.mul_add, Int.sub_mul, Int.mul_comm (gC M (5 + 5 * t) i) (p.toInt * _), Int.mul_comm (gC M (5 + 5 * t) i) p.toInt]
        omega
      · rw [if_neg (ofNat_ne (by omega) (by omega) e)]
        refine step _ ?_
        have ez : zow (gC M (5 + 5 * t)) (zW c) k i = 0 := if_neg e
        have q2 : ((0 : Int32).toInt64 + 100).toInt = 100 := rfl
        have q3 : ((0 : Int32).toInt64 + 100 - p.toInt64).toInt = 100 - p.toInt := by rw [s64 (by rw [q2, w64]; omega) (by rw [q2, w64]; omega), q2, w64]
        have pr2 := pbn (a := gC M (5 + 5 * t) i) (b := 100 - p.toInt) (A := 99) (B := 100) (by omega) (by omega) (by omega) (by omega)
        rw [m64 (by rw [cI, q3]; omega) (by rw [cI, q3]; omega), cI, q3]
        unfold zwt zb
        rw [if_neg (by decide), ez, Int.mul_zero, Int.zero_add, Int.mul_comm]
    · rintro ⟨ic, Y⟩ m' ⟨rfl, hF, hy⟩
      dsimp only at hF hy ⊢
      have sY := hS.tr hF.same
      have hMY := MT_same h0 sY
      have l4 : Y.1 290 t = M.1 (5 + 5 * t) 4 := by rw [hMY.2.2.2.2.1.1, sY.lo loT]
      obtain ⟨r, r1, r2⟩ := least_m hMY hx (b := M.1 (5 + 5 * t) 4) (by omega) (wt := zwt 1 p.toInt (b : Int) (gC M (5 + 5 * t)) (zW c) k) (fun i hi => ⟨hy i hi, zwt_bd hp (by omega) (t5 i hi).2.2⟩) (zwt_pos hp (by omega) (fun i hi => (t5 i hi).2.2) ((Bw_used hW).mpr hk))
      rw [f_253_13]
      simp only [if_pos i8, ex, hMY.2.2.1, l4, r1, Option.bind_some, if_pos (ib_ofNat (n := 12) (by omega) (show k < 12 by omega)), ofNat_clamp (show k < 2147483648 by omega)]
      rw [if_pos ((ofNat_le (by omega) (by omega)).mpr (Nat.le_refl _)), ofNat_succ]
      refine ⟨(Int32.ofNat (k + 1), sI Y 308 k r), ⟨rfl, sY.sI _ (by unfold scr; omega), Bk_of hBZ (fun i => by dsimp only; rw [sI_ne (by omega), hF.1]) (by dsimp only; rw [sI_ne (by omega), hF.1]), fun w hw => ?_⟩, rfl⟩
      dsimp only
      by_cases e : w = k
      · subst e
        rw [sI_at, r2]
        unfold zAc
        rw [hb, (same_XC sY (T := 5 + 5 * t) (by omega)).1, sY.lo loT]
      · rw [sI_nj e, hF.1]
        exact hz w (by omega)
  · rintro ⟨kc, Z⟩ m ⟨rfl, hS, hBZ, hz⟩
    dsimp only at hS hBZ hz ⊢
    rw [f_253_2, hBZ.2, if_pos ((ofNat_le (by omega) (by omega)).mpr (Nat.le_refl _))]
    exact ⟨Z, rfl, hS, hBZ, hz⟩
/-- arounds(): all losses of a truth -/
def FrA (U V : sU) : Prop := V.1 = U.1 ∧ ∀ x j, x ≠ 311 → V.2.1 x j = U.2.1 x j
theorem FrA.same {U V : sU} (h : FrA U V) : Same U V := ⟨fun x j _ => by rw [h.1], fun x j q => h.2 x j (fun e => q (by unfold scr; omega))⟩
theorem FrA.sJ {U V : sU} (h : FrA U V) (i : Nat) (v : Int64) : FrA U (sJ V 311 i v) := ⟨h.1, fun x j hx => by rw [sJ_ne hx]; exact h.2 x j hx⟩
theorem arounds_m {M V : sU} {t n b : Nat} {W : Nat → Nat} {A : Nat → Int} (h : MT M t n) (hS : Same M V) (hB : Bk V n W b) (hW : Bw n W b) (hA : ∀ w, w < b → (V.1 308 w).toInt = A w) (bA : ∀ w, 0 ≤ A w ∧ A w ≤ 999) {x s : Int32} (hx : x.toInt = t) (hs : -600 ≤ s.toInt ∧ s.toInt ≤ 600) : ∃ Z, f_255 x s V = some Z ∧ FrA V Z ∧ ∀ j, j < n → (Z.2.1 311 j).toInt = zs (zD (M.1 (5 + 5 * t) 6) A (gX M (5 + 5 * t)) s.toInt j) b := by
  have hMV := MT_same h hS
  have t8 := h.1
  have n12 := h.2.1.2.2.1
  have t5 := h.2.1.2.2.2.2.1
  have b12 := hW.2.1
  have ex : x.toNatClampNeg = t := by rw [clamp_int]; omega
  have i8 : ib x 8 := ib_int.mpr (by omega)
  have eX : ∀ i, i < n → (V.1 296 (12 * t + i)).toInt = gX M (5 + 5 * t) i := by
    intro i hi
    rw [(hMV.2.2.2.2.2.2.2.2.2.2 i hi).1]
    unfold gX
    rw [hS.lo (by omega)]
  unfold f_255
  refine loop_ex (fun m (z : Int32 × sU) => f_255_2 m x s z.1 z.2) (fun i z => z.1 = Int32.ofNat i ∧ FrA V z.2 ∧ ∀ j, j < i → (z.2.2.1 311 j).toInt = zs (zD (M.1 (5 + 5 * t) 6) A (gX M (5 + 5 * t)) s.toInt j) b) (fun o => ∃ Z, o = some Z ∧ FrA V Z ∧ ∀ j, j < n → (Z.2.1 311 j).toInt = zs (zD (M.1 (5 + 5 * t) 6) A (gX M (5 + 5 * t)) s.toInt j) b) n ?_ ?_ n 0 FU (0, V) (by omega) (by unfold FU; omega) ⟨rfl, ⟨rfl, fun _ _ _ => rfl⟩, fun j hj => by omega⟩
  · rintro i ⟨c, Z⟩ m hi ⟨rfl, hF, hz⟩
    dsimp only at hF hz ⊢
    refine Or.inr ?_
    obtain ⟨m1, m2⟩ := mul12 (s := x) (i := Int32.ofNat i) hx (ofNat_int (by omega)) (by omega) (by omega)
    have i96 : ib (12 * x + Int32.ofNat i) 96 := ib_int.mpr (by omega)
    have i12 : ib (Int32.ofNat i) 12 := ib_ofNat (by omega) (by omega)
    have c12 : (Int32.ofNat i).toNatClampNeg = i := ofNat_clamp (by omega)
    have bX := t5 i hi
    rw [f_255_2]
    simp only [if_pos i8, ex, hF.1, hMV.2.2.1, if_pos i12, c12]
    rw [if_neg (fun q => by have := (ofNat_le (by omega) (by omega)).mp q; omega)]
    refine loop_ex (fun m' (z : Int32 × sU) => f_255_22 (fun v1 v2 v3 U => f_255_2 m v1 v2 v3 U) m' x s (Int32.ofNat i) z.1 z.2) (fun k z => z.1 = Int32.ofNat k ∧ FrA V z.2 ∧ (∀ j, j < i → (z.2.2.1 311 j).toInt = zs (zD (M.1 (5 + 5 * t) 6) A (gX M (5 + 5 * t)) s.toInt j) b) ∧ (z.2.2.1 311 i).toInt = zs (zD (M.1 (5 + 5 * t) 6) A (gX M (5 + 5 * t)) s.toInt i) k) (fun o => ∃ s' : Int32 × sU, (s'.1 = Int32.ofNat (i + 1) ∧ FrA V s'.2 ∧ ∀ j, j < i + 1 → (s'.2.2.1 311 j).toInt = zs (zD (M.1 (5 + 5 * t) 6) A (gX M (5 + 5 * t)) s.toInt j) b) ∧ o = f_255_2 m x s s'.1 s'.2) b ?_ ?_ b 0 FU (0, sJ Z 311 i 0) (by omega) (by unfold FU; omega) ⟨rfl, hF.sJ _ _, fun j hj => by dsimp only; rw [sJ_nj (by omega)]; exact hz j hj, by dsimp only; rw [sJ_at]; rfl⟩
    · rintro k ⟨kc, Y⟩ m' hk ⟨rfl, hG, hy, hyi⟩
      dsimp only at hG hy hyi ⊢
      refine Or.inr ?_
      have ea := hA k hk
      have ba := bA k
      have ei := eX i hi
      have k12 : ib (Int32.ofNat k) 12 := ib_ofNat (by omega) (by omega)
      have d1 : (V.1 308 k - V.1 296 (12 * t + i)).toInt = A k - gX M (5 + 5 * t) i := by rw [s32 (by rw [ea, ei]; omega) (by rw [ea, ei]; omega), ea, ei]
      have d2 : (V.1 308 k - V.1 296 (12 * t + i) - s).toInt64.toInt = A k - gX M (5 + 5 * t) i - s.toInt := by rw [w64, s32 (by rw [d1]; omega) (by rw [d1]; omega), d1]
      have hMY := MT_same hMV hG.same
      obtain ⟨r, r1, r2⟩ := loses_m hMY hx (d := (V.1 308 k - V.1 296 (12 * t + i) - s).toInt64) (by rw [d2]; omega) (by rw [d2]; omega)
      have er : r.toInt = zD (M.1 (5 + 5 * t) 6) A (gX M (5 + 5 * t)) s.toInt i k := by rw [r2, d2, hG.1, hS.lo (by omega : 5 + 5 * t < 210)]; rfl
      have bd := zD_bd (q := M.1 (5 + 5 * t) 6) (A := A) (X := gX M (5 + 5 * t)) (s := s.toInt) (j := i) (w := k) ba ⟨bX.1, bX.2.1⟩ hs
      have sb : 0 ≤ zs (zD (M.1 (5 + 5 * t) 6) A (gX M (5 + 5 * t)) s.toInt i) k ∧ zs (zD (M.1 (5 + 5 * t) 6) A (gX M (5 + 5 * t)) s.toInt i) k ≤ 12 * 2560000 := zs_bd (by omega) (fun v hv => zD_bd (bA v) ⟨bX.1, bX.2.1⟩ hs) (by omega)
      rw [f_255_22]
      simp only [hG.1, hB.2, if_pos i12, c12, if_pos k12, ofNat_clamp (show k < 2147483648 by omega), if_pos i96, m2, r1, Option.bind_some]
      rw [if_neg (fun q => by have := (ofNat_le (by omega) (by omega)).mp q; omega), ofNat_succ]
      refine ⟨(Int32.ofNat (k + 1), sJ Y 311 i (Y.2.1 311 i + r)), ⟨rfl, hG.sJ _ _, fun j hj => by dsimp only; rw [sJ_nj (by omega)]; exact hy j hj, ?_⟩, rfl⟩
      dsimp only
      rw [sJ_at]
      show _ = zs _ k + _
      rw [a64 (by rw [hyi, er]; omega) (by rw [hyi, er]; omega), hyi, er]
    · rintro ⟨kc, Y⟩ m' ⟨rfl, hG, hy, hyi⟩
      dsimp only at hG hy hyi ⊢
      rw [f_255_22, hG.1, hB.2, if_pos ((ofNat_le (by omega) (by omega)).mpr (Nat.le_refl _)), ofNat_succ]
      refine ⟨(Int32.ofNat (i + 1), Y), ⟨rfl, hG, fun j hj => ?_⟩, rfl⟩
      by_cases e : j = i
      · subst e; exact hyi
      · exact hy j (by omega)
  · rintro ⟨c, Z⟩ m ⟨rfl, hF, hz⟩
    dsimp only at hF hz ⊢
    rw [f_255_2]
    simp only [if_pos i8, ex, hF.1, hMV.2.2.1]
    rw [if_pos ((ofNat_le (by omega) (by omega)).mpr (Nat.le_refl _))]
    exact ⟨Z, rfl, hF, hz⟩
/-- blurred() -/
theorem blurred_m {M V Z : sU} {t n b : Nat} {W : Nat → Nat} {A : Nat → Int} (h : MT M t n) (hS : Same M V) (hB : Bk V n W b) (hW : Bw n W b) (hA : ∀ w, w < b → (V.1 308 w).toInt = A w) (bA : ∀ w, 0 ≤ A w ∧ A w ≤ 999) {x s p : Int32} (hx : x.toInt = t) (hs : -600 ≤ s.toInt ∧ s.toInt ≤ 600) (hp : 0 ≤ p.toInt ∧ p.toInt ≤ 100) (hF : FrA V Z) (hz : ∀ j, j < n → (Z.2.1 311 j).toInt = zs (zD (M.1 (5 + 5 * t) 6) A (gX M (5 + 5 * t)) s.toInt j) b) {j w : Nat} (hj : j < n) (hw : w < b) : ∃ r, f_254 x (Int32.ofNat j) (Int32.ofNat w) p s Z = some r ∧ r.toInt = zsp 1 p.toInt (b : Int) (M.1 (5 + 5 * t) 6) (zub W n) A (gX M (5 + 5 * t)) s.toInt j w ∧ 0 ≤ r.toInt ∧ r.toInt ≤ 10000000000 := by
  have sZ := hS.tr hF.same
  have hMZ := MT_same h sZ
  have t8 := h.1
  have n12 := h.2.1.2.2.1
  have t5 := h.2.1.2.2.2.2.1 j hj
  have b12 := hW.2.1
  have e100 : (100 : Int32).toInt = 100 := rfl
  obtain ⟨m1, m2⟩ := mul12 (s := x) (i := Int32.ofNat j) hx (ofNat_int (by omega)) (by omega) (by omega)
  have i96 : ib (12 * x + Int32.ofNat j) 96 := ib_int.mpr (by omega)
  have eX : (Z.1 296 (12 * t + j)).toInt = gX M (5 + 5 * t) j := by
    rw [(hMZ.2.2.2.2.2.2.2.2.2.2 j hj).1]
    unfold gX
    rw [sZ.lo (by omega)]
  have ea : (Z.1 308 w).toInt = A w := by rw [hF.1]; exact hA w hw
  have ba := bA w
  have e48 : Z.1 280 48 = Int32.ofNat b := by rw [hF.1]; exact hB.2
  have eb : (Int32.ofNat b).toInt = b := ofNat_int (by omega)
  have k1 : (Z.1 296 (12 * t + j) + s).toInt64.toInt = gX M (5 + 5 * t) j + s.toInt := by rw [w64, a32 (by rw [eX]; omega) (by rw [eX]; omega), eX]
  have d : ((Z.1 308 w).toInt64 - (Z.1 296 (12 * t + j) + s).toInt64).toInt = A w - gX M (5 + 5 * t) j - s.toInt := by
    rw [s64 (by rw [w64, ea, k1]; omega) (by rw [w64, ea, k1]; omega), w64, ea, k1]
    omega
  obtain ⟨q, q1, q2⟩ := loses_m hMZ hx (d := (Z.1 308 w).toInt64 - (Z.1 296 (12 * t + j) + s).toInt64) (by rw [d]; omega) (by rw [d]; omega)
  have eq : q.toInt = zD (M.1 (5 + 5 * t) 6) A (gX M (5 + 5 * t)) s.toInt j w := by rw [q2, d, sZ.lo (by omega : 5 + 5 * t < 210)]; rfl
  have kb := zD_bd (q := M.1 (5 + 5 * t) 6) (A := A) (X := gX M (5 + 5 * t)) (s := s.toInt) (j := j) (w := w) ba ⟨t5.1, t5.2.1⟩ hs
  have sk : 0 ≤ zs (zD (M.1 (5 + 5 * t) 6) A (gX M (5 + 5 * t)) s.toInt j) b ∧ zs (zD (M.1 (5 + 5 * t) 6) A (gX M (5 + 5 * t)) s.toInt j) b ≤ 12 * 2560000 := zs_bd (by omega) (fun v hv => zD_bd (bA v) ⟨t5.1, t5.2.1⟩ hs) (by omega)
  have c1 := pbn hp.1 hp.2 (b := (b : Int)) (B := 12) (by omega) (by omega)
  have c2 := pbn (a := p.toInt * (b : Int)) (b := zD (M.1 (5 + 5 * t) 6) A (gX M (5 + 5 * t)) s.toInt j w) (A := 1200) (B := 2560000) (by omega) (by omega) (by omega) (by omega)
  have c3 := pbn (a := 100 - p.toInt) (b := zs (zD (M.1 (5 + 5 * t) 6) A (gX M (5 + 5 * t)) s.toInt j) b) (A := 100) (B := 12 * 2560000) (by omega) (by omega) (by omega) (by omega)
  have g1 : (p * Int32.ofNat b).toInt64.toInt = p.toInt * b := by rw [w64, m32 (by rw [eb]; omega) (by rw [eb]; omega), eb]
  have g2 : ((p * Int32.ofNat b).toInt64 * q).toInt = p.toInt * b * zD (M.1 (5 + 5 * t) 6) A (gX M (5 + 5 * t)) s.toInt j w := by rw [m64 (by rw [g1, eq]; omega) (by rw [g1, eq]; omega), g1, eq]
  have g3 : (100 - p).toInt64.toInt = 100 - p.toInt := by rw [w64, s32 (by rw [e100]; omega) (by rw [e100]; omega), e100]
  have g4 : ((100 - p).toInt64 * Z.2.1 311 j).toInt = (100 - p.toInt) * zs (zD (M.1 (5 + 5 * t) 6) A (gX M (5 + 5 * t)) s.toInt j) b := by rw [m64 (by rw [g3, hz j hj]; omega) (by rw [g3, hz j hj]; omega), g3, hz j hj]
  have fin : ((p * Int32.ofNat b).toInt64 * q + (100 - p).toInt64 * Z.2.1 311 j).toInt = zsp 1 p.toInt (b : Int) (M.1 (5 + 5 * t) 6) (zub W n) A (gX M (5 + 5 * t)) s.toInt j w := by
    have e : zs (fun v => if (zub W n).testBit v then zl (M.1 (5 + 5 * t) 6) (A v - gX M (5 + 5 * t) j - s.toInt) else 0) 12 = zs (zD (M.1 (5 + 5 * t) 6) A (gX M (5 + 5 * t)) s.toInt j) b := zs_used hW (zD (M.1 (5 + 5 * t) 6) A (gX M (5 + 5 * t)) s.toInt j)
    unfold zsp zb
    rw [if_neg (by decide), e, a64 (by rw [g2, g4]; omega) (by rw [g2, g4]; omega), g2, g4]
    rfl
  refine ⟨_, ?_, fin, ?_, ?_⟩
  · unfold f_254
    simp only [if_pos i96, m2, if_pos (ib_ofNat (n := 12) (by omega) (show w < 12 by omega)), ofNat_clamp (show w < 2147483648 by omega), q1, Option.bind_some, if_pos (ib_ofNat (n := 12) (by omega) (show j < 12 by omega)), ofNat_clamp (show j < 2147483648 by omega), e48]
  · rw [a64 (by rw [g2, g4]; omega) (by rw [g2, g4]; omega), g2, g4]; omega
  · rw [a64 (by rw [g2, g4]; omega) (by rw [g2, g4]; omega), g2, g4]; omega
