/-! a reading with its acts: losses, worths, the first lie -/
def Rdy (V : sU) (a T n : Nat) (W : Nat → Nat) (A : Nat → Int) : Prop := Rd V a T n W ∧ (∀ w, w < 12 → (zub W n).testBit w = true → (V.1 (a + 4) w).toInt = A w) ∧ ∀ w, w < 12 → 0 ≤ A w ∧ A w ≤ 999
theorem W_used {n t : Nat} {W : Nat → Nat} (ht : t < n) : (zub W n).testBit (W t) = true := zub_test.mpr ⟨t, ht, rfl⟩
theorem lossAt_ok {V : sU} {a T n t w : Nat} {W : Nat → Nat} {A : Nat → Int} {s : Int32} (h : Rdy V a T n W A) (ht : t < n) (hw : w < 12) (hu : (zub W n).testBit w = true) (hs : -600 ≤ s.toInt ∧ s.toInt ≤ 600) : (f_52 a (Int32.ofNat t) (Int32.ofNat w) s V).toInt = zl (V.1 T 6) (A w - gX V T t - s.toInt) ∧ -1600 ≤ A w - gX V T t - s.toInt ∧ A w - gX V T t - s.toInt ≤ 1600 := by
  obtain ⟨⟨ha, htk, ⟨t1, t2, t3, t4, t5, t6, t7, t8, t9, t10, t11⟩, hW, hl, hwi, hbl, hcl⟩, hA, hb⟩ := h
  obtain ⟨l1, l2, l3, l4⟩ := ln_rd ha
  have i3 : iget (a + 3) (Int32.ofNat w) V = V.1 (a + 4) w := iget_k l2 hw
  have i1 : iget (T + 1) (Int32.ofNat t) V = V.1 (T + 2) t := iget_k t9 (by omega)
  have eA := hA w hw hu
  have bA := hb w hw
  have eX : (V.1 (T + 2) t).toInt = gX V T t := rfl
  have bX := t5 t ht
  have d1 : (V.1 (a + 4) w - V.1 (T + 2) t).toInt = A w - gX V T t := by rw [s32 (by rw [eA, eX]; omega) (by rw [eA, eX]; omega), eA, eX]
  have d2 : (V.1 (a + 4) w - V.1 (T + 2) t - s).toInt = A w - gX V T t - s.toInt := by rw [s32 (by rw [d1]; omega) (by rw [d1]; omega), d1]
  refine ⟨?_, by omega, by omega⟩
  unfold f_52
  rw [htk, i3, i1, zl_c (by rw [w64, d2]; omega) (by rw [w64, d2]; omega), w64, d2]
/-- a loss as it is said: by the word's own act and those of all used words -/
def zsp (bl : Int32) (cl un : Int) (q : Int32) (u : Nat) (A X : Nat → Int) (s : Int) (t w : Nat) : Int := zb bl cl un (zl q (A w - X t - s)) (zs (fun v => if u.testBit v then zl q (A v - X t - s) else 0) 12)
theorem zl_1600 {q : Int32} {d : Int} (h1 : -1600 ≤ d) (h2 : d ≤ 1600) : 0 ≤ zl q d ∧ zl q d ≤ 2560000 := by
  have k := pb h1 h2 h1 h2
  have k2 := sqn d
  unfold zl
  split
  · omega
  · split <;> omega
theorem zsu_bd {q : Int32} {u : Nat} {f : Nat → Int} (h : ∀ v, v < 12 → u.testBit v = true → -1600 ≤ f v ∧ f v ≤ 1600) {k : Nat} (hk : k ≤ 12) : 0 ≤ zs (fun v => if u.testBit v then zl q (f v) else 0) k ∧ zs (fun v => if u.testBit v then zl q (f v) else 0) k ≤ 12 * 2560000 := by
  refine zs_bd hk (fun i hi => ?_) (by omega)
  by_cases e : u.testBit i = true
  · rw [if_pos e]
    have := h i (by omega) e
    exact zl_1600 this.1 this.2
  · rw [if_neg e]; omega
theorem spread_ok {V : sU} {a T n t w : Nat} {W : Nat → Nat} {A : Nat → Int} {s : Int32} (h : Rdy V a T n W A) (ht : t < n) (hw : w < 12) (hu : (zub W n).testBit w = true) (hs : -600 ≤ s.toInt ∧ s.toInt ≤ 600) : ∃ r, f_53 a (Int32.ofNat t) (Int32.ofNat w) s V = some r ∧ r.toInt = zsp (V.1 a 11) (V.1 a 13).toInt (V.1 a 10).toInt (V.1 T 6) (zub W n) A (gX V T) s.toInt t w := by
  have h0 := h
  obtain ⟨hu0, hu12, _⟩ := Rd_un h.1
  obtain ⟨⟨ha, htk, ⟨t1, t2, t3, t4, t5, t6, t7, t8, t9, t10, t11⟩, hW, hl, hwi, hbl, hcl⟩, hA, hb⟩ := h
  obtain ⟨k1, k2, k3⟩ := lossAt_ok h0 ht hw hu hs
  have kb := zl_1600 (q := V.1 T 6) k2 k3
  have e12 : (12 : Int32).toInt = 12 := rfl
  have e100 : (100 : Int32).toInt = 100 := rfl
  have z0 : (0 : Int64).toInt = 0 := rfl
  have hq := zub_lt (W := W) (n := n) (fun i hi => hW.1 i hi)
  unfold f_53 zsp zb
  by_cases hb0 : V.1 a 11 = 0
  · rw [if_pos hb0, if_pos hb0]
    exact ⟨_, rfl, k1⟩
  rw [if_neg hb0, if_neg hb0]
  have sb : ∀ k, k ≤ 12 → 0 ≤ zs (fun v => if (zub W n).testBit v then zl (V.1 T 6) (A v - gX V T t - s.toInt) else 0) k ∧ zs (fun v => if (zub W n).testBit v then zl (V.1 T 6) (A v - gX V T t - s.toInt) else 0) k ≤ 12 * 2560000 := fun k hk => zsu_bd (f := fun v => A v - gX V T t - s.toInt) (fun v hv hvu => (lossAt_ok h0 ht hv hvu hs).2) hk
  refine loop_ex (fun m (s' : Int64 × Int32) => f_53_21 m a (Int32.ofNat t) (Int32.ofNat w) s s'.1 s'.2 V) (fun k s' => s'.2 = Int32.ofNat k ∧ s'.1.toInt = zs (fun v => if (zub W n).testBit v then zl (V.1 T 6) (A v - gX V T t - s.toInt) else 0) k) (fun b => ∃ r, b = some r ∧ r.toInt = (V.1 a 13).toInt * (V.1 a 10).toInt * zl (V.1 T 6) (A w - gX V T t - s.toInt) + (100 - (V.1 a 13).toInt) * zs (fun v => if (zub W n).testBit v then zl (V.1 T 6) (A v - gX V T t - s.toInt) else 0) 12) 12 ?_ ?_ 12 0 FU (0, 0) (by omega) (by unfold FU; omega) ⟨rfl, rfl⟩
  · rintro k ⟨al, c⟩ m hk ⟨rfl, hal⟩
    dsimp only at hal ⊢
    refine Or.inr ?_
    have sk := sb k (by omega)
    rw [f_53_21, if_neg (by rw [i32_le, e12, ofNat_int (by omega)]; omega), f43_eq hW.2.2.1 hq hk, ofNat_succ]
    by_cases e : (zub W n).testBit k = true
    · rw [if_pos e, if_neg (by decide)]
      obtain ⟨j1, j2, j3⟩ := lossAt_ok h0 ht hk e hs
      have jb := zl_1600 (q := V.1 T 6) j2 j3
      refine ⟨(al + f_52 a (Int32.ofNat t) (Int32.ofNat k) s V, Int32.ofNat (k + 1)), ⟨rfl, ?_⟩, rfl⟩
      dsimp only
      unfold zs
      rw [if_pos e, a64 (by rw [hal, j1]; omega) (by rw [hal, j1]; omega), hal, j1]
    · rw [if_neg e, if_pos rfl]
      refine ⟨(al + 0, Int32.ofNat (k + 1)), ⟨rfl, ?_⟩, rfl⟩
      dsimp only
      unfold zs
      rw [if_neg e, a64 (by rw [hal, z0]; omega) (by rw [hal, z0]; omega), hal, z0]
  · rintro ⟨al, c⟩ m ⟨rfl, hal⟩
    dsimp only at hal ⊢
    have sk := sb 12 (by omega)
    have c1 := pbn hcl.1 hcl.2 hu0 hu12
    have c2 := pb (a := (V.1 a 13).toInt * (V.1 a 10).toInt) (b := zl (V.1 T 6) (A w - gX V T t - s.toInt)) (A := 1200) (B := 2560000) (by omega) (by omega) (by omega) (by omega)
    have c3 := pb (a := 100 - (V.1 a 13).toInt) (b := zs (fun v => if (zub W n).testBit v then zl (V.1 T 6) (A v - gX V T t - s.toInt) else 0) 12) (A := 100) (B := 12 * 2560000) (by omega) (by omega) (by omega) (by omega)
    have m1 : ((V.1 a 13).toInt64 * (V.1 a 10).toInt64).toInt = (V.1 a 13).toInt * (V.1 a 10).toInt := by rw [m64 (by rw [w64, w64]; omega) (by rw [w64, w64]; omega), w64, w64]
    have m2 : ((V.1 a 13).toInt64 * (V.1 a 10).toInt64 * f_52 a (Int32.ofNat t) (Int32.ofNat w) s V).toInt = (V.1 a 13).toInt * (V.1 a 10).toInt * zl (V.1 T 6) (A w - gX V T t - s.toInt) := by rw [m64 (by rw [m1, k1]; omega) (by rw [m1, k1]; omega), m1, k1]
    have m3 : (100 - V.1 a 13).toInt64.toInt = 100 - (V.1 a 13).toInt := by rw [w64, s32 (by rw [e100]; omega) (by rw [e100]; omega), e100]
    have m4 : ((100 - V.1 a 13).toInt64 * al).toInt = (100 - (V.1 a 13).toInt) * zs (fun v => if (zub W n).testBit v then zl (V.1 T 6) (A v - gX V T t - s.toInt) else 0) 12 := by rw [m64 (by rw [m3, hal]; omega) (by rw [m3, hal]; omega), m3, hal]
    rw [f_53_21, if_pos (by rw [i32_le, e12, ofNat_int (by omega)]; omega)]
    exact ⟨_, rfl, by rw [a64 (by rw [m2, m4]; omega) (by rw [m2, m4]; omega), m2, m4]⟩
theorem zsp_bd {bl q : Int32} {cl un s : Int} {u t w : Nat} {A X : Nat → Int} (hc : 0 ≤ cl ∧ cl ≤ 100) (hu : 0 ≤ un ∧ un ≤ 12) (h : ∀ v, v < 12 → u.testBit v = true → -1600 ≤ A v - X t - s ∧ A v - X t - s ≤ 1600) (hw : w < 12) (hwu : u.testBit w = true) : 0 ≤ zsp bl cl un q u A X s t w ∧ zsp bl cl un q u A X s t w ≤ 10000000000 := by
  have k1 := h w hw hwu
  have kb := zl_1600 (q := q) k1.1 k1.2
  have sk := zsu_bd (q := q) (f := fun v => A v - X t - s) h (k := 12) (by omega)
  have c1 := pbn hc.1 hc.2 hu.1 hu.2
  have c2 := pbn (a := cl * un) (b := zl q (A w - X t - s)) (A := 1200) (B := 2560000) (by omega) (by omega) (by omega) (by omega)
  have c3 := pbn (a := 100 - cl) (b := zs (fun v => if u.testBit v then zl q (A v - X t - s) else 0) 12) (A := 100) (B := 12 * 2560000) (by omega) (by omega) (by omega) (by omega)
  unfold zsp zb
  split <;> omega
/-- the worth of a meaning for one who likes what is so and s -/
def zwo (bl : Int32) (cl un : Int) (q : Int32) (n u : Nat) (A X C : Nat → Int) (W : Nat → Nat) (s : Int) : Int := zs (fun t => C t * zsp bl cl un q u A X s t (W t)) n
theorem worth_ok {V : sU} {a T n : Nat} {W : Nat → Nat} {A : Nat → Int} {x : Int32} (h : Rdy V a T n W A) : ∃ r, f_56 a x V = some r ∧ r.toInt = zwo (V.1 a 11) (V.1 a 13).toInt (V.1 a 10).toInt (V.1 T 6) n (zub W n) A (gX V T) (gC V T) W (if x = 0 then (V.1 a 7).toInt else (V.1 a 8).toInt) ∧ -1000000000000000 ≤ r.toInt ∧ r.toInt ≤ 1000000000000000 := by
  have h0 := h
  obtain ⟨hu0, hu12, _⟩ := Rd_un h.1
  obtain ⟨⟨ha, htk, ⟨t1, t2, t3, t4, t5, t6, t7, t8, t9, t10, t11⟩, hW, hl, hwi, hbl, hcl⟩, hA, hb⟩ := h
  obtain ⟨l1, l2, l3, l4⟩ := ln_rd ha
  have main : ∀ s : Int32, (-600 ≤ s.toInt ∧ s.toInt ≤ 600) → ∃ r, f_56_21 FU a s 0 0 V = some r ∧ r.toInt = zwo (V.1 a 11) (V.1 a 13).toInt (V.1 a 10).toInt (V.1 T 6) n (zub W n) A (gX V T) (gC V T) W s.toInt ∧ -1000000000000000 ≤ r.toInt ∧ r.toInt ≤ 1000000000000000 := by
    intro s hs
    have tb : ∀ i, i < n → 0 ≤ gC V T i * zsp (V.1 a 11) (V.1 a 13).toInt (V.1 a 10).toInt (V.1 T 6) (zub W n) A (gX V T) s.toInt i (W i) ∧ gC V T i * zsp (V.1 a 11) (V.1 a 13).toInt (V.1 a 10).toInt (V.1 T 6) (zub W n) A (gX V T) s.toInt i (W i) ≤ 99 * 10000000000 := by
      intro i hi
      have q1 := t5 i hi
      have q2 := zsp_bd (bl := V.1 a 11) (q := V.1 T 6) (cl := (V.1 a 13).toInt) (un := (V.1 a 10).toInt) (s := s.toInt) (u := zub W n) (t := i) (w := W i) (A := A) (X := gX V T) hcl ⟨hu0, hu12⟩ (fun v hv hvu => (lossAt_ok h0 hi hv hvu hs).2) (hW.1 i hi) (W_used hi)
      exact pbn (by omega) (by omega) q2.1 q2.2
    have sb : ∀ k, k ≤ n → 0 ≤ zs (fun t => gC V T t * zsp (V.1 a 11) (V.1 a 13).toInt (V.1 a 10).toInt (V.1 T 6) (zub W n) A (gX V T) s.toInt t (W t)) k ∧ zs (fun t => gC V T t * zsp (V.1 a 11) (V.1 a 13).toInt (V.1 a 10).toInt (V.1 T 6) (zub W n) A (gX V T) s.toInt t (W t)) k ≤ 12 * (99 * 10000000000) := fun k hk => zs_bd (by omega) (fun i hi => tb i (by omega)) (by omega)
    refine loop_ex (fun m (s' : Int64 × Int32) => f_56_21 m a s s'.1 s'.2 V) (fun k s' => s'.2 = Int32.ofNat k ∧ s'.1.toInt = zs (fun t => gC V T t * zsp (V.1 a 11) (V.1 a 13).toInt (V.1 a 10).toInt (V.1 T 6) (zub W n) A (gX V T) s.toInt t (W t)) k) (fun b => ∃ r, b = some r ∧ r.toInt = zwo (V.1 a 11) (V.1 a 13).toInt (V.1 a 10).toInt (V.1 T 6) n (zub W n) A (gX V T) (gC V T) W s.toInt ∧ -1000000000000000 ≤ r.toInt ∧ r.toInt ≤ 1000000000000000) n ?_ ?_ n 0 FU (0, 0) (by omega) (by unfold FU; omega) ⟨rfl, rfl⟩
    · rintro k ⟨al, c⟩ m hk ⟨rfl, hal⟩
      dsimp only at hal ⊢
      refine Or.inr ?_
      have sk := sb k (by omega)
      have tk := tb k hk
      have g1 : iget (a + 1) (Int32.ofNat k) V = Int32.ofNat (W k) := by rw [iget_k l1 (by omega)]; exact hW.2.1 k hk
      have g3 : iget (T + 3) (Int32.ofNat k) V = V.1 (T + 4) k := iget_k t10 (by omega)
      have cI : (V.1 (T + 4) k).toInt64.toInt = gC V T k := w64 _
      obtain ⟨r, r1, r2⟩ := spread_ok h0 hk (hW.1 k hk) (W_used hk) hs
      rw [f_56_21, htk, t1, if_neg (fun q => by have := (ofNat_le (by omega) (by omega)).mp q; omega), g1, g3, r1, ofNat_succ]
      have m1 : ((V.1 (T + 4) k).toInt64 * r).toInt = gC V T k * zsp (V.1 a 11) (V.1 a 13).toInt (V.1 a 10).toInt (V.1 T 6) (zub W n) A (gX V T) s.toInt k (W k) := by rw [m64 (by rw [cI, r2]; omega) (by rw [cI, r2]; omega), cI, r2]
      refine ⟨(al + (V.1 (T + 4) k).toInt64 * r, Int32.ofNat (k + 1)), ⟨rfl, ?_⟩, rfl⟩
      dsimp only
      unfold zs
      rw [a64 (by rw [hal, m1]; omega) (by rw [hal, m1]; omega), hal, m1]
    · rintro ⟨al, c⟩ m ⟨rfl, hal⟩
      dsimp only at hal ⊢
      have sk := sb n (by omega)
      rw [f_56_21, htk, t1, if_pos ((ofNat_le (by omega) (by omega)).mpr (Nat.le_refl _))]
      exact ⟨_, rfl, hal, by omega, by omega⟩
  unfold f_56
  by_cases hx : x = 0
  · rw [if_pos hx, if_pos hx]
    exact main _ (by omega)
  · rw [if_neg hx, if_neg hx]
    exact main _ (by omega)
