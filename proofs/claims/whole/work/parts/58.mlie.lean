/-! the reference: losses, lies, worths of a meaning -/
theorem mA_bd {M : sU} {k t n w : Nat} (h : MG M k t n) (hw : w < 12) : 0 ≤ mA M k (5 + 5 * t) n w ∧ mA M k (5 + 5 * t) n w ≤ 999 := by
  unfold mA
  split
  · exact (h.2.2.2.2.2.2.2.2 w hw).2
  · exact zlst_bd
/-- loses() -/
theorem loses_m {M : sU} {t n : Nat} (h : MT M t n) {x : Int32} (hx : x.toInt = t) {d : Int64} (h1 : -5000 ≤ d.toInt) (h2 : d.toInt ≤ 5000) : ∃ r, f_208 x d M = some r ∧ r.toInt = zl (M.1 (5 + 5 * t) 6) d.toInt := by
  have t8 := h.1
  have e := loses_eq (U := M) (V := M) (t := t) (x := x) (d := d) (ib_int.mpr (by omega)) (by rw [clamp_int]; omega) h.2.2.2.2.2.2.1
  exact ⟨_, e, zl_c h1 h2⟩
theorem losesBy_m {M V : sU} {k t n j w : Nat} (h : MG M k t n) (ha : Ac M V k t n) {x s : Int32} (hx : x.toInt = k) (hj : j < n) (hw : w < 12) (hu : (zub (mW M k) n).testBit w = true) (hs : -600 ≤ s.toInt ∧ s.toInt ≤ 600) : ∃ r, f_227 x (Int32.ofNat j) (Int32.ofNat w) s V = some r ∧ r.toInt = zsp (mBl M k) (mCl M k) (zpc (zub (mW M k) n)) (M.1 (5 + 5 * t) 6) (zub (mW M k) n) (mA M k (5 + 5 * t) n) (gX M (5 + 5 * t)) s.toInt j w ∧ 0 ≤ r.toInt ∧ r.toInt ≤ 10000000000 := by
  obtain ⟨hS, h43, h44, hA⟩ := ha
  have hV := MG_same h hS
  have hcl := MG_cl h
  obtain ⟨un1, un12, hq⟩ := MG_un h
  have bA : ∀ v, v < 12 → 0 ≤ mA M k (5 + 5 * t) n v ∧ mA M k (5 + 5 * t) n v ≤ 999 := fun v hv => mA_bd h hv
  obtain ⟨k12, hM, h1, h2, h3, h4, h5, h6, h7⟩ := h
  obtain ⟨_, hMV, v1, v2, v3, v4, v5, v6, v7⟩ := hV
  have hT := hM.2.1
  have n12 := hT.2.2.1
  have t5 := hT.2.2.2.2.1
  have t8 := hM.1
  have ex : x.toNatClampNeg = k := by rw [clamp_int]; omega
  have i12 : ib x 12 := ib_int.mpr (by omega)
  have e12 : (12 : Int32).toInt = 12 := rfl
  have e100 : (100 : Int32).toInt = 100 := rfl
  have et : (Int32.ofNat t).toInt = t := ofNat_int (by omega)
  have et2 : (Int32.ofNat t).toNatClampNeg = t := ofNat_clamp (by omega)
  obtain ⟨m1, m2⟩ := mul12 (s := Int32.ofNat t) (i := Int32.ofNat j) et (ofNat_int (by omega)) (by omega) (by omega)
  have i96 : ib (12 * Int32.ofNat t + Int32.ofNat j) 96 := ib_int.mpr (by omega)
  have bX := t5 j hj
  have eX : (V.1 296 (12 * t + j)).toInt = gX M (5 + 5 * t) j := by
    rw [(hMV.2.2.2.2.2.2.2.2.2.2 j hj).1]
    unfold gX
    rw [hS.lo (by omega)]
  have eq : V.1 (5 + 5 * t) 6 = M.1 (5 + 5 * t) 6 := hS.lo (by omega)
  have lk : (V.1 296 (12 * t + j) + s).toInt64.toInt = gX M (5 + 5 * t) j + s.toInt := by rw [w64, a32 (by rw [eX]; omega) (by rw [eX]; omega), eX]
  have one : ∀ v, v < 12 → (zub (mW M k) n).testBit v = true → ∃ r, f_208 (Int32.ofNat t) ((V.1 306 v).toInt64 - (V.1 296 (12 * t + j) + s).toInt64) V = some r ∧ r.toInt = zl (M.1 (5 + 5 * t) 6) (mA M k (5 + 5 * t) n v - gX M (5 + 5 * t) j - s.toInt) := by
    intro v hv hvu
    have ea := hA v hv hvu
    have ba := bA v hv
    have d : ((V.1 306 v).toInt64 - (V.1 296 (12 * t + j) + s).toInt64).toInt = mA M k (5 + 5 * t) n v - gX M (5 + 5 * t) j - s.toInt := by
      rw [s64 (by rw [w64, ea, lk]; omega) (by rw [w64, ea, lk]; omega), w64, ea, lk]
      omega
    obtain ⟨r, r1, r2⟩ := loses_m hMV et (d := (V.1 306 v).toInt64 - (V.1 296 (12 * t + j) + s).toInt64) (by rw [d]; omega) (by rw [d]; omega)
    exact ⟨r, r1, by rw [r2, d, eq]⟩
  have rng : ∀ v, v < 12 → (zub (mW M k) n).testBit v = true → -1600 ≤ mA M k (5 + 5 * t) n v - gX M (5 + 5 * t) j - s.toInt ∧ mA M k (5 + 5 * t) n v - gX M (5 + 5 * t) j - s.toInt ≤ 1600 := fun v hv _ => by
    have := bA v hv
    omega
  have bnd := zsp_bd (bl := mBl M k) (q := M.1 (5 + 5 * t) 6) (un := (zpc (zub (mW M k) n) : Int)) hcl (by omega) rng hw hu
  obtain ⟨r, r1, r2⟩ := one w hw hu
  unfold f_227
  simp only [if_pos i12, ex, v1, if_pos i96, m2, if_pos (ib_ofNat (n := 12) (by omega) hw), ofNat_clamp (show w < 2147483648 by omega), r1, Option.bind_some, v3]
  rw [hS.lo (by omega : 45 + 5 * k < 210)]
  by_cases k2 : M.1 (45 + 5 * k) 2 = 2
  · have b1 : mBl M k = 1 := if_pos k2
    have b2 : mCl M k = (M.1 (45 + 5 * k) 4).toInt := if_pos k2
    obtain ⟨p1, p2, p3⟩ := h5 k2
    have pv : V.1 300 k = M.1 (45 + 5 * k) 4 := by rw [hS.1 300 k (by unfold scr; omega)]; exact p1
    rw [if_pos k2]
    have kb := zl_1600 (q := M.1 (5 + 5 * t) 6) (rng w hw hu).1 (rng w hw hu).2
    have sb : ∀ i, i ≤ 12 → 0 ≤ zs (fun v => if (zub (mW M k) n).testBit v then zl (M.1 (5 + 5 * t) 6) (mA M k (5 + 5 * t) n v - gX M (5 + 5 * t) j - s.toInt) else 0) i ∧ zs (fun v => if (zub (mW M k) n).testBit v then zl (M.1 (5 + 5 * t) 6) (mA M k (5 + 5 * t) n v - gX M (5 + 5 * t) j - s.toInt) else 0) i ≤ 12 * 2560000 := fun i hi => zsu_bd (f := fun v => mA M k (5 + 5 * t) n v - gX M (5 + 5 * t) j - s.toInt) rng hi
    refine loop_ex (fun m (s' : Int64 × Int32) => f_227_63 m x (Int32.ofNat t) (V.1 296 (12 * t + j) + s).toInt64 r s'.1 s'.2 V) (fun i s' => s'.2 = Int32.ofNat i ∧ s'.1.toInt = zs (fun v => if (zub (mW M k) n).testBit v then zl (M.1 (5 + 5 * t) 6) (mA M k (5 + 5 * t) n v - gX M (5 + 5 * t) j - s.toInt) else 0) i) (fun o => ∃ r, o = some r ∧ r.toInt = zsp (mBl M k) (mCl M k) (zpc (zub (mW M k) n)) (M.1 (5 + 5 * t) 6) (zub (mW M k) n) (mA M k (5 + 5 * t) n) (gX M (5 + 5 * t)) s.toInt j w ∧ 0 ≤ r.toInt ∧ r.toInt ≤ 10000000000) 12 ?_ ?_ 12 0 FU (0, 0) (by omega) (by unfold FU; omega) ⟨rfl, rfl⟩
    · rintro i ⟨al, c⟩ m hi ⟨rfl, hal⟩
      dsimp only at hal ⊢
      refine Or.inr ?_
      have sk := sb i (by omega)
      rw [f_227_63, if_neg (by rw [i32_le, e12, ofNat_int (by omega)]; omega), h43, ofNat_succ]
      by_cases e : (zub (mW M k) n).testBit i = true
      · rw [if_pos ((bit_at hq hi).1.mpr e), if_pos (ib_ofNat (by omega) hi), ofNat_clamp (by omega)]
        obtain ⟨y, y1, y2⟩ := one i hi e
        have yb := zl_1600 (q := M.1 (5 + 5 * t) 6) (rng i hi e).1 (rng i hi e).2
        rw [y1, Option.bind_some]
        refine ⟨(al + y, Int32.ofNat (i + 1)), ⟨rfl, ?_⟩, rfl⟩
        dsimp only
        unfold zs
        rw [if_pos e, a64 (by rw [hal, y2]; omega) (by rw [hal, y2]; omega), hal, y2]
      · rw [if_neg (fun g => e ((bit_at hq hi).1.mp g))]
        refine ⟨(al, Int32.ofNat (i + 1)), ⟨rfl, ?_⟩, rfl⟩
        dsimp only
        unfold zs
        rw [if_neg e, hal, Int.add_zero]
    · rintro ⟨al, c⟩ m ⟨rfl, hal⟩
      dsimp only at hal ⊢
      have sk := sb 12 (by omega)
      have c1 := pbn hcl.1 hcl.2 (b := (zpc (zub (mW M k) n) : Int)) (B := 12) (by omega) (by omega)
      have c2 := pb (a := mCl M k * (zpc (zub (mW M k) n) : Int)) (b := zl (M.1 (5 + 5 * t) 6) (mA M k (5 + 5 * t) n w - gX M (5 + 5 * t) j - s.toInt)) (A := 1200) (B := 2560000) (by omega) (by omega) (by omega) (by omega)
      have c3 := pb (a := 100 - mCl M k) (b := zs (fun v => if (zub (mW M k) n).testBit v then zl (M.1 (5 + 5 * t) 6) (mA M k (5 + 5 * t) n v - gX M (5 + 5 * t) j - s.toInt) else 0) 12) (A := 100) (B := 12 * 2560000) (by omega) (by omega) (by omega) (by omega)
      have eu : (Int32.ofNat (zpc (zub (mW M k) n))).toInt = zpc (zub (mW M k) n) := ofNat_int (by omega)
      have q1 : (V.1 300 k * V.1 280 44).toInt64.toInt = mCl M k * (zpc (zub (mW M k) n) : Int) := by
        rw [w64, pv, h44, m32 (by rw [← b2, eu]; omega) (by rw [← b2, eu]; omega), eu, b2]
      have q2 : ((V.1 300 k * V.1 280 44).toInt64 * r).toInt = mCl M k * (zpc (zub (mW M k) n) : Int) * zl (M.1 (5 + 5 * t) 6) (mA M k (5 + 5 * t) n w - gX M (5 + 5 * t) j - s.toInt) := by rw [m64 (by rw [q1, r2]; omega) (by rw [q1, r2]; omega), q1, r2]
      have q3 : (100 - V.1 300 k).toInt64.toInt = 100 - mCl M k := by rw [w64, pv, s32 (by rw [e100]; omega) (by rw [e100]; omega), e100, b2]
      have q4 : ((100 - V.1 300 k).toInt64 * al).toInt = (100 - mCl M k) * zs (fun v => if (zub (mW M k) n).testBit v then zl (M.1 (5 + 5 * t) 6) (mA M k (5 + 5 * t) n v - gX M (5 + 5 * t) j - s.toInt) else 0) 12 := by rw [m64 (by rw [q3, hal]; omega) (by rw [q3, hal]; omega), q3, hal]
      rw [f_227_63, if_pos (by rw [i32_le, e12, ofNat_int (by omega)]; omega)]
      simp only [if_pos i12, ex]
      have fin : ((V.1 300 k * V.1 280 44).toInt64 * r + (100 - V.1 300 k).toInt64 * al).toInt = zsp (mBl M k) (mCl M k) (zpc (zub (mW M k) n)) (M.1 (5 + 5 * t) 6) (zub (mW M k) n) (mA M k (5 + 5 * t) n) (gX M (5 + 5 * t)) s.toInt j w := by
        unfold zsp zb
        rw [b1, if_neg (by decide), a64 (by rw [q2, q4]; omega) (by rw [q2, q4]; omega), q2, q4]
      exact ⟨_, rfl, fin, by rw [fin]; exact bnd.1, by rw [fin]; exact bnd.2⟩
  · have b1 : mBl M k = 0 := if_neg k2
    rw [if_neg k2]
    have fin : r.toInt = zsp (mBl M k) (mCl M k) (zpc (zub (mW M k) n)) (M.1 (5 + 5 * t) 6) (zub (mW M k) n) (mA M k (5 + 5 * t) n) (gX M (5 + 5 * t)) s.toInt j w := by
      unfold zsp zb
      rw [b1, if_pos rfl, r2]
    exact ⟨r, rfl, fin, by rw [fin]; exact bnd.1, by rw [fin]; exact bnd.2⟩
theorem mul_lt_iff {c a b : Int} (hc : 0 < c) : c * a < c * b ↔ a < b := by
  constructor
  · intro h
    by_cases e : a < b
    · exact e
    · have := Int.mul_le_mul_of_nonneg_left (by omega : b ≤ a) (by omega : 0 ≤ c)
      omega
  · intro h
    exact Int.mul_lt_mul_of_pos_left h hc
/-- a blurred word is disliked as it were plain -/
theorem zsp_lt {M : sU} {k t n j w v : Nat} (h : MG M k t n) {s : Int} (hw : w < 12) (hv : v < 12) : (zsp (mBl M k) (mCl M k) (zpc (zub (mW M k) n)) (M.1 (5 + 5 * t) 6) (zub (mW M k) n) (mA M k (5 + 5 * t) n) (gX M (5 + 5 * t)) s j w < zsp (mBl M k) (mCl M k) (zpc (zub (mW M k) n)) (M.1 (5 + 5 * t) 6) (zub (mW M k) n) (mA M k (5 + 5 * t) n) (gX M (5 + 5 * t)) s j v) ↔ zD (M.1 (5 + 5 * t) 6) (mA M k (5 + 5 * t) n) (gX M (5 + 5 * t)) s j w < zD (M.1 (5 + 5 * t) 6) (mA M k (5 + 5 * t) n) (gX M (5 + 5 * t)) s j v := by
  have hcl := MG_cl h
  obtain ⟨un1, un12, hq⟩ := MG_un h
  unfold zsp zb zD
  by_cases b : mBl M k = 0
  · rw [if_pos b, if_pos b]
  · rw [if_neg b, if_neg b]
    by_cases c0 : mCl M k = 0
    · have k5 : ¬ M.1 (45 + 5 * k) 2 = 5 := by
        intro e
        apply b
        unfold mBl
        rw [e, if_neg (by decide)]
      have eA : mA M k (5 + 5 * t) n w = mA M k (5 + 5 * t) n v := by
        unfold mA
        rw [if_neg k5, if_neg k5]
        unfold mB
        refine zlst_congr (fun i _ => ?_) (fun i _ => rfl)
        unfold zwt zb
        rw [if_neg b, if_neg b, c0, Int.zero_mul, Int.zero_mul, Int.zero_mul]
      rw [eA, c0, Int.zero_mul, Int.zero_mul]
      omega
    · have := mul_lt_iff (c := mCl M k * (zpc (zub (mW M k) n) : Int)) (a := zl (M.1 (5 + 5 * t) 6) (mA M k (5 + 5 * t) n w - gX M (5 + 5 * t) j - s)) (b := zl (M.1 (5 + 5 * t) 6) (mA M k (5 + 5 * t) n v - gX M (5 + 5 * t) j - s)) (Int.mul_pos (by omega) (by omega))
      rw [← this]
      omega
/-- isWorse() -/
theorem isWorse_m {M V : sU} {k t n w : Nat} (h : MG M k t n) (ha : Ac M V k t n) (hk : M.1 (45 + 5 * k) 2 = 5) {x : Int32} (hx : x.toInt = k) (hw : w < 12) (hu : (zub (mW M k) n).testBit w = true) : ∃ r Z, f_229 x (Int32.ofNat w) V = some (r, Z) ∧ Ac M Z k t n ∧ (r = 0 ↔ ¬ zhe (M.1 (5 + 5 * t) 6) n (gC M (5 + 5 * t)) (gX M (5 + 5 * t)) (mW M k) (M.1 (5 + 5 * t) 4).toInt w (mB M k (5 + 5 * t) n w) < zhe (M.1 (5 + 5 * t) 6) n (gC M (5 + 5 * t)) (gX M (5 + 5 * t)) (mW M k) (M.1 (5 + 5 * t) 4).toInt w (mA M k (5 + 5 * t) n w)) := by
  obtain ⟨hS, h43, h44, hA⟩ := ha
  have hV := MG_same h hS
  have k12 := h.1
  have t8 := h.2.1.1
  have bA := mA_bd h hw
  obtain ⟨Z, z1, z2, z3⟩ := weighs_m hV hx hw
  have huV : (zub (mW V k) n).testBit w = true := by rw [mW_same hS k12]; exact hu
  obtain ⟨d, d1, d2⟩ := best_m hV z2 z3 huV
  rw [mB_same hS k12 (by omega)] at d2
  have bB : 0 ≤ mB M k (5 + 5 * t) n w ∧ mB M k (5 + 5 * t) n w ≤ 999 := zlst_bd
  have sZ : Same M Z := hS.tr z2.same
  have hZ := MG_same h sZ
  have hMZ := hZ.2.1
  have hT := h.2.1.2.1
  have n12 := hT.2.2.1
  have t5 := hT.2.2.2.2.1
  have hl := h.2.1.2.2.2.2.1
  have ex : x.toNatClampNeg = k := by rw [clamp_int]; omega
  have i12 : ib x 12 := ib_int.mpr (by omega)
  have it8 : ib (Int32.ofNat t) 8 := ib_ofNat (by omega) t8
  have et : (Int32.ofNat t).toInt = t := ofNat_int (by omega)
  have et2 : (Int32.ofNat t).toNatClampNeg = t := ofNat_clamp (by omega)
  have b1 : mBl M k = 0 := by unfold mBl; rw [hk, if_neg (by decide)]
  have b1V : mBl V k = 0 := by unfold mBl; rw [hS.lo (by omega), hk, if_neg (by decide)]
  obtain ⟨eXV, eCV⟩ := same_XC hS (T := 5 + 5 * t) (by omega)
  have wI : ∀ i, i < n → (Z.2.1 305 i).toInt = zow (gC M (5 + 5 * t)) (mW M k) w i := by
    intro i hi
    rw [z3 i hi]
    unfold zwt zb
    rw [b1V, if_pos rfl, eCV, mW_same hS k12]
  have e290 : ∀ Y : sU, Same M Y → Y.1 290 t = M.1 (5 + 5 * t) 4 := fun Y hY => by rw [hY.1 290 t (by unfold scr; omega)]; exact hl.1
  have v298 : V.1 298 k = Int32.ofNat t := hV.2.2.1
  have zAc : Ac M Z k t n := ⟨sZ, by rw [z2.1]; exact h43, by rw [z2.1]; exact h44, fun v hv hvu => by rw [z2.1]; exact hA v hv hvu⟩
  have v4 : V.1 (5 + 5 * t) 4 = M.1 (5 + 5 * t) 4 := hS.lo (by omega)
  rw [v4] at d1
  unfold f_229
  rw [if_pos i12, z1, Option.bind_some, ex, v298, if_pos it8, et2, e290 Z sZ, d1, Option.bind_some]
  have i96 : ∀ i, i < n → ib (12 * Int32.ofNat t + Int32.ofNat i) 96 ∧ (12 * Int32.ofNat t + Int32.ofNat i).toNatClampNeg = 12 * t + i := by
    intro i hi
    obtain ⟨m1, m2⟩ := mul12 (s := Int32.ofNat t) (i := Int32.ofNat i) et (ofNat_int (by omega)) (by omega) (by omega)
    exact ⟨ib_int.mpr (by omega), m2⟩
  have eq6 : Z.1 (5 + 5 * t) 6 = M.1 (5 + 5 * t) 6 := sZ.lo (by omega)
  have act : (Z.1 306 w).toInt = mA M k (5 + 5 * t) n w := zAc.2.2.2 w hw hu
  have xI : ∀ i, i < n → (Z.1 296 (12 * t + i)).toInt = gX M (5 + 5 * t) i := by
    intro i hi
    rw [(hMZ.2.2.2.2.2.2.2.2.2.2 i hi).1]
    unfold gX
    rw [sZ.lo (by omega)]
  have one : ∀ (y : Int32), 0 ≤ y.toInt → y.toInt ≤ 999 → ∀ i, i < n → ∃ r, f_208 (Int32.ofNat t) (y - Z.1 296 (12 * t + i) - M.1 (5 + 5 * t) 4).toInt64 Z = some r ∧ r.toInt = zl (M.1 (5 + 5 * t) 6) (y.toInt - gX M (5 + 5 * t) i - (M.1 (5 + 5 * t) 4).toInt) ∧ 0 ≤ r.toInt ∧ r.toInt ≤ 25000000 := by
    intro y y0 y9 i hi
    have bx := t5 i hi
    have ei := xI i hi
    have q1 : (y - Z.1 296 (12 * t + i)).toInt = y.toInt - gX M (5 + 5 * t) i := by rw [s32 (by rw [ei]; omega) (by rw [ei]; omega), ei]
    have q2 : (y - Z.1 296 (12 * t + i) - M.1 (5 + 5 * t) 4).toInt64.toInt = y.toInt - gX M (5 + 5 * t) i - (M.1 (5 + 5 * t) 4).toInt := by rw [w64, s32 (by rw [q1]; omega) (by rw [q1]; omega), q1]
    obtain ⟨r, r1, r2⟩ := loses_m hMZ et (d := (y - Z.1 296 (12 * t + i) - M.1 (5 + 5 * t) 4).toInt64) (by rw [q2]; omega) (by rw [q2]; omega)
    rw [q2, eq6] at r2
    have := zl_bd (q := M.1 (5 + 5 * t) 6) (d := y.toInt - gX M (5 + 5 * t) i - (M.1 (5 + 5 * t) 4).toInt) (by omega) (by omega)
    exact ⟨r, r1, r2, by omega, by omega⟩
  have term : ∀ (y : Int), 0 ≤ y → y ≤ 999 → ∀ i, i < n → 0 ≤ zow (gC M (5 + 5 * t)) (mW M k) w i * zl (M.1 (5 + 5 * t) 6) (y - gX M (5 + 5 * t) i - (M.1 (5 + 5 * t) 4).toInt) ∧ zow (gC M (5 + 5 * t)) (mW M k) w i * zl (M.1 (5 + 5 * t) 6) (y - gX M (5 + 5 * t) i - (M.1 (5 + 5 * t) 4).toInt) ≤ 99 * 25000000 := by
    intro y y0 y9 i hi
    have bx := t5 i hi
    have q1 := zow_bd (W := mW M k) (w := w) bx.2.2
    have q2 := zl_bd (q := M.1 (5 + 5 * t) 6) (d := y - gX M (5 + 5 * t) i - (M.1 (5 + 5 * t) 4).toInt) (by omega) (by omega)
    exact pbn q1.1 q1.2 q2.1 q2.2
  have sums : ∀ (y : Int), 0 ≤ y → y ≤ 999 → ∀ i, i ≤ n → 0 ≤ zhe (M.1 (5 + 5 * t) 6) i (gC M (5 + 5 * t)) (gX M (5 + 5 * t)) (mW M k) (M.1 (5 + 5 * t) 4).toInt w y ∧ zhe (M.1 (5 + 5 * t) 6) i (gC M (5 + 5 * t)) (gX M (5 + 5 * t)) (mW M k) (M.1 (5 + 5 * t) 4).toInt w y ≤ 12 * (99 * 25000000) := fun y y0 y9 i hi => zs_bd (by omega) (fun j hj => term y y0 y9 j (by omega)) (by omega)
  have dI : 0 ≤ d.toInt ∧ d.toInt ≤ 999 := by omega
  refine loop_ex (fun m (s : Int64 × Int64 × Int32) => f_229_35 m (Int32.ofNat w) (Int32.ofNat t) d s.1 s.2.1 s.2.2 Z) (fun i s => s.2.2 = Int32.ofNat i ∧ s.1.toInt = zhe (M.1 (5 + 5 * t) 6) i (gC M (5 + 5 * t)) (gX M (5 + 5 * t)) (mW M k) (M.1 (5 + 5 * t) 4).toInt w (mB M k (5 + 5 * t) n w) ∧ s.2.1.toInt = zhe (M.1 (5 + 5 * t) 6) i (gC M (5 + 5 * t)) (gX M (5 + 5 * t)) (mW M k) (M.1 (5 + 5 * t) 4).toInt w (mA M k (5 + 5 * t) n w)) (fun o => ∃ r Z', o = some (r, Z') ∧ Ac M Z' k t n ∧ (r = 0 ↔ ¬ zhe (M.1 (5 + 5 * t) 6) n (gC M (5 + 5 * t)) (gX M (5 + 5 * t)) (mW M k) (M.1 (5 + 5 * t) 4).toInt w (mB M k (5 + 5 * t) n w) < zhe (M.1 (5 + 5 * t) 6) n (gC M (5 + 5 * t)) (gX M (5 + 5 * t)) (mW M k) (M.1 (5 + 5 * t) 4).toInt w (mA M k (5 + 5 * t) n w))) n ?_ ?_ n 0 FU (0, 0, 0) (by omega) (by unfold FU; omega) ⟨rfl, rfl, rfl⟩
  · rintro i ⟨p, q, c⟩ m hi ⟨rfl, hp, hq⟩
    dsimp only at hp hq ⊢
    refine Or.inr ?_
    obtain ⟨j1, j2⟩ := i96 i hi
    obtain ⟨r, r1, r2, r3, r4⟩ := one d dI.1 dI.2 i hi
    obtain ⟨y, y1, y2, y3, y4⟩ := one (Z.1 306 w) (by omega) (by omega) i hi
    have sp := sums (mB M k (5 + 5 * t) n w) bB.1 bB.2 i (by omega)
    have sq := sums (mA M k (5 + 5 * t) n w) bA.1 bA.2 i (by omega)
    have tp := term (mB M k (5 + 5 * t) n w) bB.1 bB.2 i hi
    have tq := term (mA M k (5 + 5 * t) n w) bA.1 bA.2 i hi
    rw [d2] at r2
    rw [act] at y2
    have i305 : ib (Int32.ofNat i) 12 := ib_ofNat (by omega) (by omega)
    have c305 : (Int32.ofNat i).toNatClampNeg = i := ofNat_clamp (by omega)
    have iw : ib (Int32.ofNat w) 12 := ib_ofNat (by omega) hw
    have cw : (Int32.ofNat w).toNatClampNeg = w := ofNat_clamp (by omega)
    have m1 : (Z.2.1 305 i * r).toInt = zow (gC M (5 + 5 * t)) (mW M k) w i * zl (M.1 (5 + 5 * t) 6) (mB M k (5 + 5 * t) n w - gX M (5 + 5 * t) i - (M.1 (5 + 5 * t) 4).toInt) := by rw [m64 (by rw [wI i hi, r2]; omega) (by rw [wI i hi, r2]; omega), wI i hi, r2]
    have m2 : (Z.2.1 305 i * y).toInt = zow (gC M (5 + 5 * t)) (mW M k) w i * zl (M.1 (5 + 5 * t) 6) (mA M k (5 + 5 * t) n w - gX M (5 + 5 * t) i - (M.1 (5 + 5 * t) 4).toInt) := by rw [m64 (by rw [wI i hi, y2]; omega) (by rw [wI i hi, y2]; omega), wI i hi, y2]
    rw [f_229_35]
    simp only [if_pos it8, et2, hMZ.2.2.1, if_pos i305, if_pos j1, j2, e290 Z sZ, r1, Option.bind_some, if_pos iw, cw, y1, c305]
    rw [if_neg (fun q => by have := (ofNat_le (by omega) (by omega)).mp q; omega), ofNat_succ]
    refine ⟨(p + Z.2.1 305 i * r, q + Z.2.1 305 i * y, Int32.ofNat (i + 1)), ⟨rfl, ?_, ?_⟩, rfl⟩
    · dsimp only
      show _ = zhe _ i _ _ _ _ _ _ + _
      rw [a64 (by rw [hp, m1]; omega) (by rw [hp, m1]; omega), hp, m1]
    · dsimp only
      show _ = zhe _ i _ _ _ _ _ _ + _
      rw [a64 (by rw [hq, m2]; omega) (by rw [hq, m2]; omega), hq, m2]
  · rintro ⟨p, q, c⟩ m ⟨rfl, hp, hq⟩
    dsimp only at hp hq ⊢
    rw [f_229_35]
    simp only [if_pos it8, et2, hMZ.2.2.1]
    rw [if_pos ((ofNat_le (by omega) (by omega)).mpr (Nat.le_refl _))]
    by_cases hlt : zhe (M.1 (5 + 5 * t) 6) n (gC M (5 + 5 * t)) (gX M (5 + 5 * t)) (mW M k) (M.1 (5 + 5 * t) 4).toInt w (mB M k (5 + 5 * t) n w) < zhe (M.1 (5 + 5 * t) 6) n (gC M (5 + 5 * t)) (gX M (5 + 5 * t)) (mW M k) (M.1 (5 + 5 * t) 4).toInt w (mA M k (5 + 5 * t) n w)
    · rw [if_neg (by rw [cmp_ge, hp, hq]; omega)]
      exact ⟨1, Z, rfl, zAc, ⟨fun e => absurd e (by decide), fun e => absurd hlt e⟩⟩
    · rw [if_pos (by rw [cmp_ge, hp, hq]; omega)]
      exact ⟨0, Z, rfl, zAc, ⟨fun _ => hlt, fun _ => rfl⟩⟩
