/-! the reference: blocks of truths, what is done at each, what stands -/
def Bk (V : sU) (n : Nat) (W : Nat → Nat) (b : Nat) : Prop := (∀ i, i < n → V.1 307 i = Int32.ofNat (W i)) ∧ V.1 280 48 = Int32.ofNat b
def Bw (n : Nat) (W : Nat → Nat) (b : Nat) : Prop := 1 ≤ b ∧ b ≤ 12 ∧ (∀ i, i < n → W i < b) ∧ (∀ w, w < b → ∃ i, i < n ∧ W i = w)
theorem Bw_W {c n : Nat} (h1 : 1 ≤ n) (h2 : n ≤ 12) : Bw n (zW c) (zW c (n - 1) + 1) := by
  have k := zW_le c (n - 1)
  refine ⟨by omega, by omega, fun i hi => ?_, fun w hw => ?_⟩
  · have := zW_mono c (n - 1 - i) i
    rw [show i + (n - 1 - i) = n - 1 by omega] at this
    omega
  · obtain ⟨i, h3, h4⟩ := zW_onto c (n - 1) w (by omega)
    exact ⟨i, by omega, h4⟩
theorem Bw_used {n b w : Nat} {W : Nat → Nat} (h : Bw n W b) : (zub W n).testBit w = true ↔ w < b := by
  rw [zub_test]
  exact ⟨fun ⟨i, h1, h2⟩ => (by have := h.2.2.1 i h1; omega), fun hw => h.2.2.2 w hw⟩
theorem Bw_pc {n b : Nat} {W : Nat → Nat} (h : Bw n W b) : zpc (zub W n) = b := zub_run h.2.1 (fun _ => Bw_used h)
/-- what is done at a block: by those who lean l -/
def hH (U : sU) (T n : Nat) (W : Nat → Nat) (l : Int) (b : Nat) : Int := zlst (U.1 T 6) n (zow (gC U T) W b) (fun i => gX U T i + l)
theorem hH_bd {U : sU} {T n : Nat} {W : Nat → Nat} {l : Int} {b : Nat} : 0 ≤ hH U T n W l b ∧ hH U T n W l b ≤ 999 := zlst_bd
theorem hH_same {U V : sU} (h : Same U V) {T n : Nat} (hT : T + 4 < 210) {W : Nat → Nat} {l : Int} {b : Nat} : hH V T n W l b = hH U T n W l b := by
  obtain ⟨eX, eC⟩ := same_XC h hT
  unfold hH
  rw [eX, eC, h.lo (by omega : T < 210)]
theorem parts_m {M : sU} {t n c : Nat} (h : MT M t n) {x : Int32} (hx : x.toInt = t) (hc : c < 2048) : ∃ V, f_234 x (Int32.ofNat c) M = some V ∧ Same M V ∧ Bk V n (zW c) (zW c (n - 1) + 1) := by
  have h0 := h
  obtain ⟨t8, ⟨t1, t2, t3, t4, t5, t6, t7, _, t9, t10, t11⟩, h1, _⟩ := h
  have ex : x.toNatClampNeg = t := by rw [clamp_int]; omega
  have i8 : ib x 8 := ib_int.mpr (by omega)
  have z0 : (0 : Int32).toNatClampNeg = 0 := rfl
  have sc : ∀ j, scr 307 j := fun j => by unfold scr; omega
  unfold f_234
  rw [z0]
  refine loop_ex (fun m (s : Int32 × Int32 × sU) => f_234_12 m x (Int32.ofNat c) s.1 s.2.1 s.2.2) (fun i s => s.2.1 = Int32.ofNat (i + 1) ∧ s.1 = Int32.ofNat (zW c i) ∧ Same M s.2.2 ∧ ∀ j, j < i + 1 → s.2.2.1 307 j = Int32.ofNat (zW c j)) (fun o => ∃ V, o = some V ∧ Same M V ∧ Bk V n (zW c) (zW c (n - 1) + 1)) (n - 1) ?_ ?_ (n - 1) 0 FU (0, 1, sI M 307 0 0) (by omega) (by unfold FU; omega) ⟨rfl, rfl, (Same.rf M).sI _ (sc 0), fun j hj => ?_⟩
  · rintro i ⟨w, k, Z⟩ m hi ⟨rfl, rfl, hS, hz⟩
    dsimp only at hS hz ⊢
    refine Or.inr ?_
    have z288 : Z.1 288 t = Int32.ofNat n := (MT_same h0 hS).2.2.1
    have hb := cut_bit (c := c) (t := i + 1) hc (by omega) (by omega)
    have ei : i + 1 - 1 = i := by omega
    rw [ei] at hb
    rw [f_234_12]
    simp only [if_pos i8, ex, z288]
    rw [if_neg (fun q => by have := (ofNat_le (by omega) (by omega)).mp q; omega), hb]
    by_cases e : c.testBit i = true
    · have e1 : zW c (i + 1) = zW c i + 1 := by show zW c i + (if c.testBit i then 1 else 0) = _; rw [if_pos e]
      rw [if_pos (show Int32.ofNat (if c.testBit i = true then 1 else 0) = 1 by rw [if_pos e]; rfl), if_pos (ib_ofNat (by omega) (by omega)), ofNat_clamp (by omega), ofNat_succ, ofNat_succ]
      refine ⟨(Int32.ofNat (zW c i + 1), Int32.ofNat (i + 1 + 1), sI Z 307 (i + 1) (Int32.ofNat (zW c i + 1))), ⟨rfl, by rw [e1], hS.sI _ (sc _), fun j hj => ?_⟩, rfl⟩
      dsimp only
      by_cases ej : j = i + 1
      · subst ej; rw [sI_at, e1]
      · rw [sI_nj ej]; exact hz j (by omega)
    · have e1 : zW c (i + 1) = zW c i := by show zW c i + (if c.testBit i then 1 else 0) = _; rw [if_neg e, Nat.add_zero]
      rw [if_neg (show ¬ Int32.ofNat (if c.testBit i = true then 1 else 0) = 1 by rw [if_neg e]; decide), if_pos (ib_ofNat (by omega) (by omega)), ofNat_clamp (by omega), ofNat_succ]
      refine ⟨(Int32.ofNat (zW c i), Int32.ofNat (i + 1 + 1), sI Z 307 (i + 1) (Int32.ofNat (zW c i))), ⟨rfl, by rw [e1], hS.sI _ (sc _), fun j hj => ?_⟩, rfl⟩
      dsimp only
      by_cases ej : j = i + 1
      · subst ej; rw [sI_at, e1]
      · rw [sI_nj ej]; exact hz j (by omega)
  · rintro ⟨w, k, Z⟩ m ⟨rfl, rfl, hS, hz⟩
    dsimp only at hS hz ⊢
    have z288 : Z.1 288 t = Int32.ofNat n := (MT_same h0 hS).2.2.1
    have en : n - 1 + 1 = n := by omega
    rw [f_234_12]
    simp only [if_pos i8, ex, z288, en]
    rw [if_pos ((ofNat_le (by omega) (by omega)).mpr (Nat.le_refl _)), ofNat_succ]
    refine ⟨_, rfl, hS.sI _ (by unfold scr; omega), fun i hi => ?_, sI_at⟩
    rw [sI_ne (by omega)]
    exact hz i (by omega)
  · have : j = 0 := by omega
    subst this
    rw [sI_at]
    rfl
theorem Bk_of {U V : sU} {n b : Nat} {W : Nat → Nat} (h : Bk U n W b) (e1 : ∀ i, V.1 307 i = U.1 307 i) (e2 : V.1 280 48 = U.1 280 48) : Bk V n W b := ⟨fun i hi => (e1 i).trans (h.1 i hi), e2.trans h.2⟩
/-- hears(): what is done at each block, by who hears and by the second -/
def Hd (U V : sU) (t n : Nat) (W : Nat → Nat) (b : Nat) : Prop := (∀ w, w < b → (V.1 308 w).toInt = hH U (5 + 5 * t) n W (U.1 (5 + 5 * t) 4).toInt w) ∧ (U.1 (5 + 5 * t) 7 = 1 → ∀ w, w < b → (V.1 309 w).toInt = hH U (5 + 5 * t) n W (U.1 (5 + 5 * t) 8).toInt w)
theorem hears_m {M : sU} {t n b : Nat} {W : Nat → Nat} (h : MT M t n) {x : Int32} (hx : x.toInt = t) (hB : Bk M n W b) (hW : Bw n W b) : ∃ V, f_235 x M = some V ∧ Same M V ∧ Bk V n W b ∧ Hd M V t n W b := by
  have h0 := h
  obtain ⟨t8, ⟨t1, t2, t3, t4, t5, t6, t7, _, t9, t10, t11⟩, h1, h2, h3, h4, h5, h6, h7, h8, h9⟩ := h
  obtain ⟨b1, b12, w1, w2⟩ := hW
  have ex : x.toNatClampNeg = t := by rw [clamp_int]; omega
  have i8 : ib x 8 := ib_int.mpr (by omega)
  have loT : 5 + 5 * t < 210 := by omega
  -- one block
  have one : ∀ (Z : sU) (k : Nat), Same M Z → Bk Z n W b → k < b → ∀ (l : Int32), -600 ≤ l.toInt ∧ l.toInt ≤ 600 → ∃ r Y, f_210 x (Int32.ofNat (zth W k n)) l Z = some (r, Y) ∧ FrW Z Y ∧ r.toInt = hH M (5 + 5 * t) n W l.toInt k := by
    intro Z k hS hBZ hk l hl
    obtain ⟨i, hi, hik⟩ := w2 k hk
    obtain ⟨r, Y, r1, r2, r3⟩ := doneAt_m (MT_same h0 hS) (q := zth W k n) hx hl (zth_lt t3) ⟨i, hi, zth_test.mpr ⟨hi, hik⟩⟩
    refine ⟨r, Y, r1, r2, ?_⟩
    rw [r3, ← hH_same hS (by omega)]
    unfold hH
    refine zlst_congr (fun j hj => ?_) (fun j _ => rfl)
    unfold zow
    by_cases e : W j = k
    · rw [if_pos (zth_test.mpr ⟨hj, e⟩), if_pos e]
    · rw [if_neg (fun g => e (zth_test.mp g).2), if_neg e]
  unfold f_235
  refine loop_ex (fun m (s : Int32 × sU) => f_235_2 m x s.1 s.2) (fun k s => s.1 = Int32.ofNat k ∧ Same M s.2 ∧ Bk s.2 n W b ∧ (∀ w, w < k → (s.2.1 308 w).toInt = hH M (5 + 5 * t) n W (M.1 (5 + 5 * t) 4).toInt w) ∧ (M.1 (5 + 5 * t) 7 = 1 → ∀ w, w < k → (s.2.1 309 w).toInt = hH M (5 + 5 * t) n W (M.1 (5 + 5 * t) 8).toInt w)) (fun o => ∃ V, o = some V ∧ Same M V ∧ Bk V n W b ∧ Hd M V t n W b) b ?_ ?_ b 0 FU (0, M) (by omega) (by unfold FU; omega) ⟨rfl, Same.rf M, hB, fun w hw => by omega, fun _ w hw => by omega⟩
  · rintro k ⟨c, Z⟩ m hk ⟨rfl, hS, hBZ, hz, hz2⟩
    dsimp only at hS hBZ hz hz2 ⊢
    refine Or.inr ?_
    have hMZ := MT_same h0 hS
    have z288 : Z.1 288 t = Int32.ofNat n := hMZ.2.2.1
    rw [f_235_2, hBZ.2, if_neg (fun q => by have := (ofNat_le (by omega) (by omega)).mp q; omega)]
    -- the inner loop
    refine loop_ex (fun m' (s : Int32 × Int32) => f_235_15 (fun v1 v2 U => f_235_2 m v1 v2 U) m' x (Int32.ofNat k) s.1 s.2 Z) (fun i s => s.2 = Int32.ofNat i ∧ s.1 = Int32.ofNat (zth W k i)) (fun o => ∃ s' : Int32 × sU, (s'.1 = Int32.ofNat (k + 1) ∧ Same M s'.2 ∧ Bk s'.2 n W b ∧ (∀ w, w < k + 1 → (s'.2.1 308 w).toInt = hH M (5 + 5 * t) n W (M.1 (5 + 5 * t) 4).toInt w) ∧ (M.1 (5 + 5 * t) 7 = 1 → ∀ w, w < k + 1 → (s'.2.1 309 w).toInt = hH M (5 + 5 * t) n W (M.1 (5 + 5 * t) 8).toInt w)) ∧ o = f_235_2 m x s'.1 s'.2) n ?_ ?_ n 0 FU (0, 0) (by omega) (by unfold FU; omega) ⟨rfl, rfl⟩
    · rintro i ⟨p, q⟩ m' hi ⟨rfl, rfl⟩
      dsimp only
      refine Or.inr ?_
      have wi := w1 i hi
      rw [f_235_15]
      simp only [if_pos i8, ex, z288]
      rw [if_neg (fun q => by have := (ofNat_le (by omega) (by omega)).mp q; omega), if_pos (ib_ofNat (by omega) (by omega)), ofNat_clamp (by omega), hBZ.1 i hi, ofNat_succ]
      by_cases e : W i = k
      · rw [if_pos (by rw [e]), shl_k (by omega), ← or_ofNat]
        exact ⟨(Int32.ofNat (zth W k i ||| 2 ^ i), Int32.ofNat (i + 1)), ⟨rfl, by dsimp only; rw [zth_y e]⟩, rfl⟩
      · rw [if_neg (ofNat_ne (by omega) (by omega) e)]
        exact ⟨(Int32.ofNat (zth W k i), Int32.ofNat (i + 1)), ⟨rfl, by dsimp only; rw [zth_n e]⟩, rfl⟩
    · rintro ⟨p, q⟩ m' ⟨rfl, rfl⟩
      dsimp only
      have z290 : Z.1 290 t = M.1 (5 + 5 * t) 4 := by rw [hMZ.2.2.2.2.1.1, hS.lo loT]
      obtain ⟨r, Y, r1, r2, r3⟩ := one Z k hS hBZ hk (M.1 (5 + 5 * t) 4) (by omega)
      have s1 : Same M (sI Y 308 k r) := (hS.tr r2.same).sI _ (by unfold scr; omega)
      have hM1 := MT_same h0 s1
      have bk1 : Bk (sI Y 308 k r) n W b := Bk_of hBZ (fun i => by rw [sI_ne (by omega), r2.1]) (by rw [sI_ne (by omega), r2.1])
      have z293 : (sI Y 308 k r).1 293 t = M.1 (5 + 5 * t) 7 := by rw [hM1.2.2.2.2.2.2.2.1.1, s1.lo loT]
      have z294 : (sI Y 308 k r).1 294 t = M.1 (5 + 5 * t) 8 := by rw [hM1.2.2.2.2.2.2.2.2.1.1, s1.lo loT]
      have z8 : ∀ w, w < k + 1 → ((sI Y 308 k r).1 308 w).toInt = hH M (5 + 5 * t) n W (M.1 (5 + 5 * t) 4).toInt w := by
        intro w hw
        by_cases e : w = k
        · subst e; rw [sI_at, r3]
        · rw [sI_nj e, r2.1]; exact hz w (by omega)
      rw [f_235_15]
      simp only [if_pos i8, ex, z288, z290, r1, Option.bind_some, if_pos (ib_ofNat (n := 12) (by omega) (show k < 12 by omega)), ofNat_clamp (show k < 2147483648 by omega), z293, z294]
      rw [if_pos ((ofNat_le (by omega) (by omega)).mpr (Nat.le_refl _)), ofNat_succ]
      by_cases e1 : M.1 (5 + 5 * t) 7 = 1
      · rw [if_pos e1]
        obtain ⟨y, X, y1, y2, y3⟩ := one (sI Y 308 k r) k s1 bk1 hk (M.1 (5 + 5 * t) 8) (by omega)
        rw [y1, Option.bind_some]
        refine ⟨(Int32.ofNat (k + 1), sI X 309 k y), ⟨rfl, (s1.tr y2.same).sI _ (by unfold scr; omega), Bk_of bk1 (fun i => by dsimp only; rw [sI_ne (by omega), y2.1]) (by dsimp only; rw [sI_ne (by omega), y2.1]), fun w hw => ?_, fun _ w hw => ?_⟩, rfl⟩
        · dsimp only
          rw [sI_ne (by omega), y2.1]
          exact z8 w hw
        · dsimp only
          by_cases e : w = k
          · subst e; rw [sI_at, y3]
          · rw [sI_nj e, y2.1, sI_ne (by omega), r2.1]; exact hz2 e1 w (by omega)
      · rw [if_neg e1]
        refine ⟨(Int32.ofNat (k + 1), sI (sI Y 308 k r) 309 k 0), ⟨rfl, s1.sI _ (by unfold scr; omega), Bk_of bk1 (fun i => by dsimp only; rw [sI_ne (by omega)]) (by dsimp only; rw [sI_ne (by omega)]), fun w hw => ?_, fun g => absurd g e1⟩, rfl⟩
        dsimp only
        rw [sI_ne (by omega)]
        exact z8 w hw
  · rintro ⟨c, Z⟩ m ⟨rfl, hS, hBZ, hz, hz2⟩
    dsimp only at hS hBZ hz hz2 ⊢
    rw [f_235_2, hBZ.2, if_pos ((ofNat_le (by omega) (by omega)).mpr (Nat.le_refl _))]
    exact ⟨Z, rfl, hS, hBZ, hz, hz2⟩
