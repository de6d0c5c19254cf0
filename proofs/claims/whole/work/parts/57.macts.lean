/-! the reference: a meaning's words, weights, acts -/
def MG (M : sU) (k t n : Nat) : Prop := k < 12 ∧ MT M t n ∧ M.1 298 k = Int32.ofNat t ∧ M.1 (45 + 5 * k) 3 = Int32.ofNat t ∧ M.1 299 k = M.1 (45 + 5 * k) 2 ∧ (0 ≤ (M.1 (45 + 5 * k) 2).toInt ∧ (M.1 (45 + 5 * k) 2).toInt ≤ 5) ∧ (M.1 (45 + 5 * k) 2 = 2 → M.1 300 k = M.1 (45 + 5 * k) 4 ∧ 0 ≤ (M.1 (45 + 5 * k) 4).toInt ∧ (M.1 (45 + 5 * k) 4).toInt ≤ 100) ∧ (∀ i, i < n → M.1 301 (12 * k + i) = Int32.ofNat (mW M k i) ∧ mW M k i < 12) ∧ (∀ w, w < 12 → M.1 302 (12 * k + w) = M.1 (49 + 5 * k) w ∧ 0 ≤ (M.1 (49 + 5 * k) w).toInt ∧ (M.1 (49 + 5 * k) w).toInt ≤ 999)
theorem MG_of {U : sU} {nT nM k : Nat} (h : InvN nT nM U) (hk : k < nM) : ∃ t n, t < nT ∧ MG U k t n := by
  have n12 := h.1.1.2.2.2.1
  obtain ⟨q1, q2, q3, q4, ⟨t, q5, q6, q7⟩, q8⟩ := mg_facts h hk
  obtain ⟨n, hM⟩ := MT_of h q5
  have hT := hM.2.1
  rw [hT.1, ofNat_clamp (by have := hT.2.2.1; omega)] at q7
  have hwd := hT.2.2.2.2.2.2.1
  refine ⟨t, n, q5, by omega, hM, q2.trans q6, q6, q1, q3, q4, ?_, q8⟩
  intro i hi
  have q := q7 i hi
  unfold mW
  rw [q.1]
  refine ⟨i32_nat q.2.1, ?_⟩
  rw [clamp_int]
  omega
theorem mW_same {U V : sU} (h : Same U V) {k : Nat} (hk : k < 12) : mW V k = mW U k := by
  funext i
  unfold mW
  rw [h.lo (by omega)]
theorem mB_same {U V : sU} (h : Same U V) {k T n w : Nat} (hk : k < 12) (hT : T + 4 < 210) : mB V k T n w = mB U k T n w := by
  obtain ⟨eX, eC⟩ := same_XC h hT
  unfold mB mBl mCl
  rw [eX, eC, mW_same h hk, h.lo (by omega : 45 + 5 * k < 210), h.lo (by omega : 45 + 5 * k < 210), h.lo (by omega : T < 210), h.lo (by omega : T < 210)]
theorem mA_same {U V : sU} (h : Same U V) {k T n w : Nat} (hk : k < 12) (hT : T + 4 < 210) : mA V k T n w = mA U k T n w := by
  unfold mA
  rw [mB_same h hk hT, h.lo (by omega : 45 + 5 * k < 210), h.lo (by omega : 49 + 5 * k < 210)]
theorem MG_same {U V : sU} {k t n : Nat} (h : MG U k t n) (s : Same U V) : MG V k t n := by
  obtain ⟨k12, hM, h1, h2, h3, h4, h5, h6, h7⟩ := h
  have e : ∀ x j, 298 ≤ x → x < 303 → V.1 x j = U.1 x j := fun x j q r => s.1 x j (by unfold scr; omega)
  refine ⟨k12, MT_same hM s, ?_, ?_, ?_, ?_, ?_, ?_, ?_⟩
  · rw [e 298 k (by omega) (by omega)]; exact h1
  · rw [s.lo (by omega)]; exact h2
  · rw [e 299 k (by omega) (by omega), s.lo (by omega)]; exact h3
  · rw [s.lo (by omega)]; exact h4
  · rw [s.lo (by omega), e 300 k (by omega) (by omega), s.lo (by omega)]; exact h5
  · intro i hi
    rw [e 301 _ (by omega) (by omega), mW_same s k12]; exact h6 i hi
  · intro w hw
    rw [e 302 _ (by omega) (by omega), s.lo (by omega)]; exact h7 w hw
theorem used_m {M : sU} {k t n : Nat} (h : MG M k t n) {x : Int32} (hx : x.toInt = k) : f_217 x M = some (Int32.ofNat (zub (mW M k) n)) ∧ f_218 x M = some (Int32.ofNat (zpc (zub (mW M k) n))) := by
  obtain ⟨k12, hM, h1, h2, h3, h4, h5, h6, h7⟩ := h
  have hT := hM.2.1
  have n12 := hT.2.2.1
  have e1 : f_217 x M = some (Int32.ofNat (zub (mW M k) n)) := by
    have q := ub_m (U := M) (v1 := x) (mm := k) (t := t) (N := n) (W := fun i => Int32.ofNat (mW M k i)) n12 hx k12 h1 hM.1 hM.2.2.1 (fun i hi => ⟨(h6 i hi).1, by
      have := (h6 i hi).2
      rw [ofNat_int (by omega)]
      omega⟩) n 0 FU (by omega) (by unfold FU; omega)
    rw [nbits_zub (n := n) (W := mW M k) (fun i hi => ofNat_clamp (by have := (h6 i hi).2; omega))] at q
    exact q
  refine ⟨e1, ?_⟩
  unfold f_218
  rw [e1, Option.bind_some, f214_eq (zub_lt (fun i hi => (h6 i hi).2)), Option.bind_some]
theorem zwt_bd {bl : Int32} {cl un : Int} {C : Nat → Int} {W : Nat → Nat} {w i : Nat} (hc : 0 ≤ cl ∧ cl ≤ 100) (hu : 0 ≤ un ∧ un ≤ 12) (hC : 1 ≤ C i ∧ C i ≤ 99) : 0 ≤ zwt bl cl un C W w i ∧ zwt bl cl un C W w i ≤ 1000000 := by
  have q := zow_bd (W := W) (w := w) hC
  have k1 := pbn hc.1 hc.2 hu.1 hu.2
  have k2 := pbn (a := cl * un) (b := zow C W w i) (A := 1200) (B := 99) (by omega) (by omega) (by omega) (by omega)
  have k3 := pbn (a := 100 - cl) (b := C i) (A := 100) (B := 99) (by omega) (by omega) (by omega) (by omega)
  unfold zwt zb
  split <;> omega
theorem zwt_pos {bl : Int32} {cl un : Int} {C : Nat → Int} {W : Nat → Nat} {w n : Nat} (hc : 0 ≤ cl ∧ cl ≤ 100) (hu : 1 ≤ un) (hC : ∀ i, i < n → 1 ≤ C i ∧ C i ≤ 99) (hw : (zub W n).testBit w = true) : 0 < zs (zwt bl cl un C W w) n := by
  obtain ⟨j, hj, hjw⟩ := zub_test.mp hw
  have o1 := zs_ge (f := zow C W w) (n := n) (j := j) (fun i hi => (zow_bd (hC i hi)).1) hj
  have o2 := zs_ge (f := C) (n := n) (j := j) (fun i hi => by have := hC i hi; omega) hj
  have e : zow C W w j = C j := if_pos hjw
  have cj := hC j hj
  have ez : zs (zwt bl cl un C W w) n = zb bl cl un (zs (zow C W w) n) (zs C n) := zs_zb _ _ _ _ _ _
  rw [ez]
  unfold zb
  split
  · omega
  · by_cases c0 : cl = 0
    · subst c0
      rw [Int.zero_mul, Int.zero_mul]
      omega
    · have k1 := Int.mul_pos (by omega : 0 < cl) (by omega : 0 < un)
      have k2 := Int.mul_pos k1 (by omega : 0 < zs (zow C W w) n)
      have k3 := Int.mul_nonneg (by omega : 0 ≤ 100 - cl) (by omega : 0 ≤ zs C n)
      omega
theorem MG_un {M : sU} {k t n : Nat} (h : MG M k t n) : 1 ≤ zpc (zub (mW M k) n) ∧ zpc (zub (mW M k) n) ≤ 12 ∧ zub (mW M k) n < 4096 := by
  have n1 := h.2.1.2.1.2.1
  have h6 := h.2.2.2.2.2.2.2.1
  exact ⟨zpc_pos (h6 0 (by omega)).2 (zub_test.mpr ⟨0, by omega, rfl⟩), zpc_le _, zub_lt (fun i hi => (h6 i hi).2)⟩
theorem MG_cl {M : sU} {k t n : Nat} (h : MG M k t n) : 0 ≤ mCl M k ∧ mCl M k ≤ 100 := by
  unfold mCl
  split
  · rename_i e; exact (h.2.2.2.2.2.2.1 e).2
  · omega
/-- weighs() -/
theorem weighs_m {M : sU} {k t n w : Nat} (h : MG M k t n) {x : Int32} (hx : x.toInt = k) (hw : w < 12) : ∃ Z, f_223 x (Int32.ofNat w) M = some Z ∧ FrW M Z ∧ ∀ i, i < n → (Z.2.1 305 i).toInt = zwt (mBl M k) (mCl M k) (zpc (zub (mW M k) n)) (gC M (5 + 5 * t)) (mW M k) w i := by
  obtain ⟨un1, un12, hq⟩ := MG_un h
  have hcl := MG_cl h
  obtain ⟨u1, u2⟩ := used_m h hx
  obtain ⟨k12, hM, h1, h2, h3, h4, h5, h6, h7⟩ := h
  obtain ⟨t8, hT, m1, m2, m3, m4, m5, m6, m7, m8, m9⟩ := hM
  have n12 := hT.2.2.1
  have t5 := hT.2.2.2.2.1
  have ex : x.toNatClampNeg = k := by rw [clamp_int]; omega
  have i12 : ib x 12 := ib_int.mpr (by omega)
  have it8 : ib (Int32.ofNat t) 8 := ib_ofNat (by omega) t8
  have et : (Int32.ofNat t).toInt = t := ofNat_int (by omega)
  have et2 : (Int32.ofNat t).toNatClampNeg = t := ofNat_clamp (by omega)
  have i96 : ∀ i, i < n → ib (12 * Int32.ofNat t + Int32.ofNat i) 96 ∧ (12 * Int32.ofNat t + Int32.ofNat i).toNatClampNeg = 12 * t + i := by
    intro i hi
    obtain ⟨m1, m2⟩ := mul12 (s := Int32.ofNat t) (i := Int32.ofNat i) et (ofNat_int (by omega)) (by omega) (by omega)
    exact ⟨ib_int.mpr (by omega), m2⟩
  have i144 : ∀ i, i < n → ib (12 * x + Int32.ofNat i) 144 ∧ (12 * x + Int32.ofNat i).toNatClampNeg = 12 * k + i := by
    intro i hi
    obtain ⟨m1, m2⟩ := mul12 (s := x) (i := Int32.ofNat i) hx (ofNat_int (by omega)) (by omega) (by omega)
    exact ⟨ib_int.mpr (by omega), m2⟩
  unfold f_223
  rw [if_pos i12, u2, Option.bind_some, ex, h1]
  refine loop_ex (fun m (s : Int32 × sU) => f_223_17 m x (Int32.ofNat w) (Int32.ofNat t) (Int32.ofNat (zpc (zub (mW M k) n))) s.1 s.2) (fun i s => s.1 = Int32.ofNat i ∧ FrW M s.2 ∧ ∀ j, j < i → (s.2.2.1 305 j).toInt = zwt (mBl M k) (mCl M k) (zpc (zub (mW M k) n)) (gC M (5 + 5 * t)) (mW M k) w j) (fun o => ∃ Z, o = some Z ∧ FrW M Z ∧ ∀ i, i < n → (Z.2.1 305 i).toInt = zwt (mBl M k) (mCl M k) (zpc (zub (mW M k) n)) (gC M (5 + 5 * t)) (mW M k) w i) n ?_ ?_ n 0 FU (0, M) (by omega) (by unfold FU; omega) ⟨rfl, ⟨rfl, fun _ _ _ => rfl⟩, fun i hi => by omega⟩
  · rintro i ⟨c, Z⟩ m hi ⟨rfl, hF, hz⟩
    dsimp only at hF hz ⊢
    refine Or.inr ?_
    obtain ⟨j1, j2⟩ := i96 i hi
    obtain ⟨j3, j4⟩ := i144 i hi
    obtain ⟨w1, w2⟩ := h6 i hi
    have i305 : ib (Int32.ofNat i) 12 := ib_ofNat (by omega) (by omega)
    have c305 : (Int32.ofNat i).toNatClampNeg = i := ofNat_clamp (by omega)
    have bC := (t5 i hi).2.2
    have cI : (M.1 297 (12 * t + i)).toInt64.toInt = gC M (5 + 5 * t) i := by rw [w64, (m9 i hi).2]; rfl
    have step : ∀ v : Int64, v.toInt = zwt (mBl M k) (mCl M k) (zpc (zub (mW M k) n)) (gC M (5 + 5 * t)) (mW M k) w i → ∃ s' : Int32 × sU, (s'.1 = Int32.ofNat (i + 1) ∧ FrW M s'.2 ∧ ∀ j, j < i + 1 → (s'.2.2.1 305 j).toInt = zwt (mBl M k) (mCl M k) (zpc (zub (mW M k) n)) (gC M (5 + 5 * t)) (mW M k) w j) ∧ f_223_17 m x (Int32.ofNat w) (Int32.ofNat t) (Int32.ofNat (zpc (zub (mW M k) n))) (Int32.ofNat i + 1) (sJ Z 305 i v) = f_223_17 m x (Int32.ofNat w) (Int32.ofNat t) (Int32.ofNat (zpc (zub (mW M k) n))) s'.1 s'.2 := by
      intro v hv
      refine ⟨(Int32.ofNat (i + 1), sJ Z 305 i v), ⟨rfl, hF.sJ _ _, fun j hj => ?_⟩, by rw [ofNat_succ]⟩
      dsimp only
      by_cases e : j = i
      · subst e; rw [sJ_at]; exact hv
      · rw [sJ_nj e]; exact hz j (by omega)
    have e100 : (100 : Int32).toInt = 100 := rfl
    have z0 : (0 : Int32).toInt = 0 := rfl
    rw [f_223_17]
    simp only [if_pos it8, et2, hF.1, m1]
    rw [if_neg (fun q => by have := (ofNat_le (by omega) (by omega)).mp q; omega), if_pos j3, j4, w1]
    by_cases e : mW M k i = w
    · rw [if_pos (by rw [e])]
      have ez : zow (gC M (5 + 5 * t)) (mW M k) w i = gC M (5 + 5 * t) i := if_pos e
      unfold f_223_49
      simp only [if_pos j1, if_pos i12, ex, hF.1, h3, j2, if_pos i305, c305]
      by_cases k2 : M.1 (45 + 5 * k) 2 = 2
      · obtain ⟨p1, p2, p3⟩ := h5 k2
        rw [if_pos k2, if_neg (by decide)]
        refine step _ ?_
        have b1 : mBl M k = 1 := if_pos k2
        have b2 : mCl M k = (M.1 (45 + 5 * k) 4).toInt := if_pos k2
        have pr := pbn p2 p3 (b := (zpc (zub (mW M k) n) : Int)) (B := 12) (by omega) (by omega)
        have eu : (Int32.ofNat (zpc (zub (mW M k) n))).toInt = zpc (zub (mW M k) n) := ofNat_int (by omega)
        have q1 : (M.1 300 k * Int32.ofNat (zpc (zub (mW M k) n))).toInt = (M.1 (45 + 5 * k) 4).toInt * zpc (zub (mW M k) n) := by rw [p1, m32 (by rw [eu]; omega) (by rw [eu]; omega), eu]
        have q2 : (M.1 300 k * Int32.ofNat (zpc (zub (mW M k) n)) + 100).toInt = (M.1 (45 + 5 * k) 4).toInt * zpc (zub (mW M k) n) + 100 := by rw [a32 (by rw [q1, e100]; omega) (by rw [q1, e100]; omega), q1, e100]
        have q3 : (M.1 300 k * Int32.ofNat (zpc (zub (mW M k) n)) + 100 - M.1 300 k).toInt = (M.1 (45 + 5 * k) 4).toInt * zpc (zub (mW M k) n) + 100 - (M.1 (45 + 5 * k) 4).toInt := by rw [s32 (by rw [q2, p1]; omega) (by rw [q2, p1]; omega), q2, p1]
        have pr2 := pbn (a := gC M (5 + 5 * t) i) (b := (M.1 (45 + 5 * k) 4).toInt * zpc (zub (mW M k) n) + 100 - (M.1 (45 + 5 * k) 4).toInt) (A := 99) (B := 1400) (by omega) (by omega) (by omega) (by omega)
        rw [m64 (by rw [cI, w64, q3]; omega) (by rw [cI, w64, q3]; omega), cI, w64, q3]
        unfold zwt zb
        rw [b1, if_neg (by decide), b2, ez, Int.mul_sub, Int.mul_add, Int.sub_mul, Int.mul_comm (gC M (5 + 5 * t) i) ((M.1 (45 + 5 * k) 4).toInt * _), Int.mul_comm (gC M (5 + 5 * t) i) (M.1 (45 + 5 * k) 4).toInt]
        omega
      · rw [if_neg k2, if_neg (by decide)]
        refine step _ ?_
        have b1 : mBl M k = 0 := if_neg k2
        unfold zwt zb
        rw [b1, if_pos rfl, ez, cI]
    · rw [if_neg (fun q => e (by have := congrArg Int32.toNatClampNeg q; rwa [ofNat_clamp (by omega), ofNat_clamp (by omega)] at this))]
      have ez : zow (gC M (5 + 5 * t)) (mW M k) w i = 0 := if_neg e
      unfold f_223_49
      simp only [if_pos j1, if_pos i12, ex, hF.1, h3, j2, if_pos i305, c305]
      by_cases k2 : M.1 (45 + 5 * k) 2 = 2
      · obtain ⟨p1, p2, p3⟩ := h5 k2
        rw [if_pos k2, if_pos True.intro]
        refine step _ ?_
        have b1 : mBl M k = 1 := if_pos k2
        have b2 : mCl M k = (M.1 (45 + 5 * k) 4).toInt := if_pos k2
        have q2 : ((0 : Int32) + 100).toInt = 100 := rfl
        have q3 : ((0 : Int32) + 100 - M.1 300 k).toInt = 100 - (M.1 (45 + 5 * k) 4).toInt := by rw [s32 (by rw [q2, p1]; omega) (by rw [q2, p1]; omega), q2, p1]
        have pr2 := pbn (a := gC M (5 + 5 * t) i) (b := 100 - (M.1 (45 + 5 * k) 4).toInt) (A := 99) (B := 100) (by omega) (by omega) (by omega) (by omega)
        rw [m64 (by rw [cI, w64, q3]; omega) (by rw [cI, w64, q3]; omega), cI, w64, q3]
        unfold zwt zb
        rw [b1, if_neg (by decide), b2, ez, Int.mul_zero, Int.zero_add, Int.mul_comm]
      · rw [if_neg k2, if_pos True.intro]
        refine step _ ?_
        have b1 : mBl M k = 0 := if_neg k2
        unfold zwt zb
        rw [b1, if_pos rfl, ez]
        rfl
  · rintro ⟨c, Z⟩ m ⟨rfl, hF, hz⟩
    dsimp only at hF hz ⊢
    rw [f_223_17]
    simp only [if_pos it8, et2, hF.1, m1]
    rw [if_pos ((ofNat_le (by omega) (by omega)).mpr (Nat.le_refl _))]
    exact ⟨Z, rfl, hF, hz⟩
/-- least() of a meaning's word, weighed -/
theorem best_m {M Z : sU} {k t n w : Nat} (h : MG M k t n) (hF : FrW M Z) (hz : ∀ i, i < n → (Z.2.1 305 i).toInt = zwt (mBl M k) (mCl M k) (zpc (zub (mW M k) n)) (gC M (5 + 5 * t)) (mW M k) w i) (hu : (zub (mW M k) n).testBit w = true) : ∃ r, f_209 (Int32.ofNat t) (M.1 (5 + 5 * t) 4) Z = some r ∧ r.toInt = mB M k (5 + 5 * t) n w := by
  obtain ⟨un1, un12, hq⟩ := MG_un h
  have hcl := MG_cl h
  have hM := h.2.1
  have t8 := hM.1
  have t5 := hM.2.1.2.2.2.2.1
  have hl := hM.2.2.2.2.1.2
  obtain ⟨r, r1, r2⟩ := least_m (MT_same hM hF.same) (x := Int32.ofNat t) (b := M.1 (5 + 5 * t) 4) (ofNat_int (by omega)) (by omega) (wt := zwt (mBl M k) (mCl M k) (zpc (zub (mW M k) n)) (gC M (5 + 5 * t)) (mW M k) w) (fun i hi => ⟨hz i hi, zwt_bd hcl (by omega) (t5 i hi).2.2⟩) (zwt_pos hcl (by omega) (fun i hi => (t5 i hi).2.2) hu)
  refine ⟨r, r1, ?_⟩
  rw [r2]
  unfold mB
  have eX : gX Z (5 + 5 * t) = gX M (5 + 5 * t) := by funext i; unfold gX; rw [hF.1]
  rw [eX, hF.1]
theorem actOf_m {M : sU} {k t n w : Nat} (h : MG M k t n) {x : Int32} (hx : x.toInt = k) (hw : w < 12) (hu : (zub (mW M k) n).testBit w = true) : ∃ r Z, f_224 x (Int32.ofNat w) M = some (r, Z) ∧ FrW M Z ∧ r.toInt = mA M k (5 + 5 * t) n w := by
  have h0 := h
  obtain ⟨k12, hM, h1, h2, h3, h4, h5, h6, h7⟩ := h
  have t8 := hM.1
  have ex : x.toNatClampNeg = k := by rw [clamp_int]; omega
  have i12 : ib x 12 := ib_int.mpr (by omega)
  obtain ⟨m1, m2⟩ := mul12 (s := x) (i := Int32.ofNat w) hx (ofNat_int (by omega)) k12 hw
  have j3 : ib (12 * x + Int32.ofNat w) 144 := ib_int.mpr (by omega)
  unfold f_224
  simp only [if_pos i12, ex, h3]
  by_cases k5 : M.1 (45 + 5 * k) 2 = 5
  · rw [if_pos k5, if_pos j3, m2]
    refine ⟨_, M, rfl, ⟨rfl, fun _ _ _ => rfl⟩, ?_⟩
    unfold mA
    rw [if_pos k5, (h7 w hw).1]
  · rw [if_neg k5]
    obtain ⟨Z, z1, z2, z3⟩ := weighs_m h0 hx hw
    obtain ⟨r, r1, r2⟩ := best_m h0 z2 z3 hu
    rw [z1, Option.bind_some]
    have it8 : ib (Int32.ofNat t) 8 := ib_ofNat (by omega) t8
    have et2 : (Int32.ofNat t).toNatClampNeg = t := ofNat_clamp (by omega)
    simp only [z2.1, h1, if_pos it8, et2, hM.2.2.2.2.1.1, r1, Option.bind_some]
    refine ⟨r, Z, rfl, z2, ?_⟩
    rw [r2]
    unfold mA
    rw [if_neg k5]
/-- acts(): what acts() leaves -/
def Ac (M V : sU) (k t n : Nat) : Prop := Same M V ∧ V.1 280 43 = Int32.ofNat (zub (mW M k) n) ∧ V.1 280 44 = Int32.ofNat (zpc (zub (mW M k) n)) ∧ ∀ w, w < 12 → (zub (mW M k) n).testBit w = true → (V.1 306 w).toInt = mA M k (5 + 5 * t) n w
theorem acts_m {M : sU} {k t n : Nat} (h : MG M k t n) {x : Int32} (hx : x.toInt = k) : ∃ V, f_226 x M = some V ∧ Ac M V k t n := by
  obtain ⟨u1, u2⟩ := used_m h hx
  obtain ⟨un1, un12, hq⟩ := MG_un h
  have k12 := h.1
  have t8 := h.2.1.1
  have e12 : (12 : Int32).toInt = 12 := rfl
  have s1 : Same M (sI M 280 43 (Int32.ofNat (zub (mW M k) n))) := (Same.rf M).sI _ (by unfold scr; omega)
  have u3 := (used_m (MG_same h s1) hx).2
  rw [mW_same s1 k12] at u3
  unfold f_226
  rw [u1, Option.bind_some, u3, Option.bind_some]
  have s2 : Same M (sI (sI M 280 43 (Int32.ofNat (zub (mW M k) n))) 280 44 (Int32.ofNat (zpc (zub (mW M k) n)))) := s1.sI _ (by unfold scr; omega)
  refine loop_ex (fun m (s : Int32 × sU) => f_226_20 m x s.1 s.2) (fun i s => s.1 = Int32.ofNat i ∧ Same M s.2 ∧ s.2.1 280 43 = Int32.ofNat (zub (mW M k) n) ∧ s.2.1 280 44 = Int32.ofNat (zpc (zub (mW M k) n)) ∧ ∀ w, w < i → (zub (mW M k) n).testBit w = true → (s.2.1 306 w).toInt = mA M k (5 + 5 * t) n w) (fun o => ∃ V, o = some V ∧ Ac M V k t n) 12 ?_ ?_ 12 0 FU (0, sI (sI M 280 43 (Int32.ofNat (zub (mW M k) n))) 280 44 (Int32.ofNat (zpc (zub (mW M k) n)))) (by omega) (by unfold FU; omega) ⟨rfl, s2, by dsimp only; rw [sI_nj (by omega), sI_at], by dsimp only; rw [sI_at], fun w hw => by omega⟩
  · rintro i ⟨c, Z⟩ m hi ⟨rfl, hS, h43, h44, hz⟩
    dsimp only at hS h43 h44 hz ⊢
    refine Or.inr ?_
    rw [f_226_20, if_neg (by rw [i32_le, e12, ofNat_int (by omega)]; omega), h43]
    by_cases ht : (zub (mW M k) n).testBit i = true
    · rw [if_pos ((bit_at hq hi).1.mpr ht)]
      obtain ⟨r, Y, r1, r2, r3⟩ := actOf_m (MG_same h hS) hx hi (by rw [mW_same hS k12]; exact ht)
      rw [r1, Option.bind_some, if_pos (ib_ofNat (by omega) hi), ofNat_clamp (by omega), ofNat_succ]
      refine ⟨(Int32.ofNat (i + 1), sI Y 306 i r), ⟨rfl, (hS.tr r2.same).sI _ (by unfold scr; omega), ?_, ?_, fun w hw hwu => ?_⟩, rfl⟩
      · dsimp only; rw [sI_ne (by omega), r2.1]; exact h43
      · dsimp only; rw [sI_ne (by omega), r2.1]; exact h44
      · dsimp only
        by_cases e : w = i
        · subst e; rw [sI_at, r3]; exact mA_same hS k12 (by omega)
        · rw [sI_nj e, r2.1]; exact hz w (by omega) hwu
    · rw [if_neg (fun g => ht ((bit_at hq hi).1.mp g)), ofNat_succ]
      refine ⟨(Int32.ofNat (i + 1), Z), ⟨rfl, hS, h43, h44, fun w hw hwu => ?_⟩, rfl⟩
      by_cases e : w = i
      · subst e; exact absurd hwu ht
      · exact hz w (by omega) hwu
  · rintro ⟨c, Z⟩ m ⟨rfl, hS, h43, h44, hz⟩
    dsimp only at hS h43 h44 hz ⊢
    rw [f_226_20, if_pos (by rw [i32_le, e12, ofNat_int (by omega)]; omega)]
    exact ⟨Z, rfl, hS, h43, h44, hz⟩
