/-! judge, worth, regret, does, word, thought -/
theorem two_i {U : sU} (h : Inv U) {c : Option (Int32 × sU)} {g : sU → Option (Int32 × sU)} {v : Int} (hc : ∃ r V, c = some (r, V) ∧ Same U V ∧ r.toInt = v) (hg : ∀ V, Same U V → ∃ r Z, g V = some (r, Z) ∧ Same V Z ∧ r.toInt = v) : Two c g := by
  obtain ⟨r, V, h1, h2, h3⟩ := hc
  obtain ⟨y, Z, g1, g2, g3⟩ := hg V h2
  obtain ⟨nT, nM, k⟩ := h
  have e : y = r := Int32.toInt_inj.mp (g3.trans h3.symm)
  subst e
  exact ⟨y, V, Z, h1, g1, nT, nM, InvN_same (h2.tr g2) k⟩
theorem two_j {U : sU} (h : Inv U) {c : Option (Int64 × sU)} {g : sU → Option (Int64 × sU)} {v : Int} (hc : ∃ r V, c = some (r, V) ∧ Same U V ∧ r.toInt = v) (hg : ∀ V, Same U V → ∃ r Z, g V = some (r, Z) ∧ Same V Z ∧ r.toInt = v) : Two c g := by
  obtain ⟨r, V, h1, h2, h3⟩ := hc
  obtain ⟨y, Z, g1, g2, g3⟩ := hg V h2
  obtain ⟨nT, nM, k⟩ := h
  have e : y = r := Int64.toInt_inj.mp (g3.trans h3.symm)
  subst e
  exact ⟨y, V, Z, h1, g1, nT, nM, InvN_same (h2.tr g2) k⟩
theorem MG_at {U : sU} {nT nM k t n : Nat} (h : InvN nT nM U) (hk : k < nM) (ht : t < nT) (e : U.1 (45 + 5 * k) 3 = Int32.ofNat t) (hT : Tk U (5 + 5 * t) n) : MG U k t n := by
  obtain ⟨t', n', h1, g⟩ := MG_of h hk
  have n8 := h.1.1.2.2.1
  have et : t' = t := by
    have := congrArg Int32.toNatClampNeg (g.2.2.2.1.symm.trans e)
    rwa [ofNat_clamp (by omega), ofNat_clamp (by omega)] at this
  subst et
  have en : n' = n := by
    have := congrArg Int32.toNatClampNeg (g.2.1.2.1.1.symm.trans hT.1)
    rwa [ofNat_clamp (by have := g.2.1.2.1.2.2.1; omega), ofNat_clamp (by have := hT.2.2.1; omega)] at this
  subst en
  exact g
theorem open_mg {U : sU} {nT nM : Nat} (h : InvN nT nM U) {x : Int32} (hx : 0 ≤ x.toInt ∧ x.toInt < nM) : ∃ t n V, t < nT ∧ f_40 218 2 x U = some (1, V) ∧ Opn U V x.toNatClampNeg (5 + 5 * t) n ∧ MG U x.toNatClampNeg t n ∧ x.toInt = x.toNatClampNeg := by
  obtain ⟨t, n, V, h1, h2, h3, h4⟩ := open_ok h hx
  obtain ⟨_, e2, _, e4, _⟩ := mat_yes h hx
  exact ⟨t, n, V, h1, h3, h4, MG_at h e2 h1 h2 h4.2.1, e4⟩
theorem zfa_same {U V : sU} (h : Same U V) {k t n : Nat} (hk : k < 12) (ht : t < 8) : zfa V k t n = zfa U k t n := by
  obtain ⟨eX, eC⟩ := same_XC h (T := 5 + 5 * t) (by omega)
  have eA : mA V k (5 + 5 * t) n = mA U k (5 + 5 * t) n := by funext w; exact mA_same h hk (by omega)
  have eB : mB V k (5 + 5 * t) n = mB U k (5 + 5 * t) n := by funext w; exact mB_same h hk (by omega)
  unfold zfa
  rw [eX, eC, eA, eB, mW_same h hk, h.lo (by omega : 5 + 5 * t < 210), h.lo (by omega : 5 + 5 * t < 210), h.lo (by omega : 5 + 5 * t < 210), h.lo (by omega : 45 + 5 * k < 210)]
theorem verdict_c {U V : sU} {k t n : Nat} (ht : t < 8) (h : Opn U V k (5 + 5 * t) n) : ∃ r, f_58 218 V = some r ∧ r.toInt = zfa U k t n := by
  obtain ⟨hS, hT, hR, hG, v7, v8, v11, v13, v12, vA⟩ := h
  obtain ⟨r, r1, r2⟩ := verdict_ok hR hG
  obtain ⟨eX, eC⟩ := same_XC hS (T := 5 + 5 * t) (by omega)
  have eA : zA V 218 (5 + 5 * t) n (mW U k) = mB U k (5 + 5 * t) n := by funext w; exact vA w
  refine ⟨r, r1, ?_⟩
  rw [r2, v8, v7, eX, eC, eA, hS.lo (by omega : 5 + 5 * t < 210), v12]
  unfold zfa
  by_cases h5 : U.1 (45 + 5 * k) 2 = 5
  · simp only [if_pos h5]
    rw [if_neg (by decide : ¬ (1 : Int32) = 0)]
  · simp only [if_neg h5]
    rw [if_pos True.intro]
theorem Inv_same {U V : sU} (h : Inv U) (s : Same U V) : Inv V := by
  obtain ⟨nT, nM, k⟩ := h
  exact ⟨nT, nM, InvN_same s k⟩
theorem ref_n1 {V : sU} {nT nM : Nat} (h : InvN nT nM V) : (f_157 5 V).2.1 280 1 = Int32.ofNat nM := (f157_1 (by decide) (by decide)).trans h.1.2.2
theorem st_judge {U : sU} (h : Inv U) (x : Int32) : Two (f_133 x U) (f_230 x) := by
  have h0 := h
  obtain ⟨nT, nM, h⟩ := h
  have n8 := h.1.1.2.2.2.1
  by_cases hx : 0 ≤ x.toInt ∧ x.toInt < nM
  case neg => exact ref_to h0 (w := 5) (by decide) (by unfold f_133; rw [open_no h hx, Option.bind_some]; rfl) (by unfold f_230; rw [if_pos (f180_no (ref_n1 h) n8 hx)])
  obtain ⟨t, n, V, ht, o1, o2, hM, ex⟩ := open_mg h hx
  have t8 := hM.2.1.1
  refine two_i h0 (v := zfa U x.toNatClampNeg t n) ?_ ?_
  · obtain ⟨r, r1, r2⟩ := verdict_c t8 o2
    unfold f_133
    rw [o1, Option.bind_some]
    dsimp only
    rw [if_neg (by decide), r1]
    exact ⟨r, V, rfl, o2.1, r2⟩
  · intro Y hY
    obtain ⟨r, Z, r1, r2, r3⟩ := fails_m (MG_same hM hY) ex
    unfold f_230
    rw [if_neg (f180_yes (InvN_same hY h).1.2.2 n8 hx), r1]
    exact ⟨r, Z, rfl, r2, r3.trans (zfa_same hY hM.1 t8)⟩
theorem f168_iff {x : Int32} {U : sU} : f_168 x U = 0 ↔ ¬ (0 ≤ x.toInt ∧ x.toInt ≤ 1) := by
  have e0 : (0 : Int32).toInt = 0 := rfl
  have e1 : (1 : Int32).toInt = 1 := rfl
  unfold f_168
  by_cases h0 : x = 0
  · subst h0
    rw [if_pos rfl, e0]
    exact ⟨fun h => absurd h (by decide), fun h => by omega⟩
  rw [if_neg h0]
  rw [i32_eq, e0] at h0
  by_cases h1 : x = 1
  · subst h1
    rw [if_pos rfl, e1]
    exact ⟨fun h => absurd h (by decide), fun h => by omega⟩
  rw [if_neg h1]
  rw [i32_eq, e1] at h1
  exact ⟨fun _ => by omega, fun _ => rfl⟩
def mwo (U : sU) (k t n : Nat) (s : Int) : Int := zwo (mBl U k) (mCl U k) (zpc (zub (mW U k) n)) (U.1 (5 + 5 * t) 6) n (zub (mW U k) n) (mA U k (5 + 5 * t) n) (gX U (5 + 5 * t)) (gC U (5 + 5 * t)) (mW U k) s
theorem mBC_same {U V : sU} (h : Same U V) {k : Nat} (hk : k < 12) : mBl V k = mBl U k ∧ mCl V k = mCl U k := by
  unfold mBl mCl
  rw [h.lo (by omega : 45 + 5 * k < 210), h.lo (by omega : 45 + 5 * k < 210)]
  exact ⟨rfl, rfl⟩
theorem mwo_same {U V : sU} (h : Same U V) {k t n : Nat} (hk : k < 12) (ht : t < 8) {s : Int} : mwo V k t n s = mwo U k t n s := by
  obtain ⟨eX, eC⟩ := same_XC h (T := 5 + 5 * t) (by omega)
  have eA : mA V k (5 + 5 * t) n = mA U k (5 + 5 * t) n := by funext w; exact mA_same h hk (by omega)
  obtain ⟨b1, b2⟩ := mBC_same h hk
  unfold mwo
  rw [eX, eC, eA, mW_same h hk, h.lo (by omega : 5 + 5 * t < 210), b1, b2]
theorem opn_facts {U V : sU} {k t n : Nat} (ht : t < 8) (h : Opn U V k (5 + 5 * t) n) : V.1 218 11 = mBl U k ∧ (V.1 218 13).toInt = mCl U k ∧ (V.1 218 10).toInt = zpc (zub (mW U k) n) ∧ V.1 (5 + 5 * t) 6 = U.1 (5 + 5 * t) 6 ∧ gX V (5 + 5 * t) = gX U (5 + 5 * t) ∧ gC V (5 + 5 * t) = gC U (5 + 5 * t) ∧ V.1 218 7 = U.1 (5 + 5 * t) 4 ∧ V.1 218 8 = U.1 (5 + 5 * t) 3 := by
  obtain ⟨hS, hT, hR, hG, v7, v8, v11, v13, v12, vA⟩ := h
  obtain ⟨eX, eC⟩ := same_XC hS (T := 5 + 5 * t) (by omega)
  exact ⟨v11, v13, (Rd_un hR.1).2.2, hS.lo (by omega), eX, eC, v7, v8⟩
theorem farJ_n {V : sU} {nT nM : Nat} (h : InvN nT nM V) : (f_158 5 V).2.1 280 1 = Int32.ofNat nM ∧ (f_158 5 V).2.1 280 0 = Int32.ofNat nT := by
  exact ⟨(f158_1 (by decide) (by decide)).trans h.1.2.2, (f158_1 (by decide) (by decide)).trans h.1.2.1⟩
theorem st_worth {U : sU} (h : Inv U) (x w : Int32) : Two (f_135 x w U) (f_233 x w) := by
  have h0 := h
  have e0 : (0 : Int32).toInt = 0 := rfl
  have e1 : (1 : Int32).toInt = 1 := rfl
  obtain ⟨nT, nM, h⟩ := h
  have n8 := h.1.1.2.2.2.1
  have bad : ∀ V, InvN nT nM V → ¬ ((0 ≤ x.toInt ∧ x.toInt < nM) ∧ (0 ≤ w.toInt ∧ w.toInt ≤ 1)) → f_233 x w (f_158 5 V).2 = (f_175 (-5) (f_158 5 V).2).bind fun q => some (q.1.toInt64, q.2) := by
    intro V hV q
    unfold f_233
    by_cases hx : 0 ≤ x.toInt ∧ x.toInt < nM
    · rw [if_neg (f180_yes (farJ_n hV).1 n8 hx)]
      by_cases w0 : w < 0
      · rw [if_pos w0]
      · rw [if_neg w0]
        rw [i32_lt0] at w0
        rw [if_neg (by rw [i32_le, e1]; omega)]
    · rw [if_pos (f180_no (farJ_n hV).1 n8 hx)]
  by_cases hw : 0 ≤ w.toInt ∧ w.toInt ≤ 1
  case neg => exact farJ_to h0 (w := 5) (by decide) (by unfold f_135; rw [if_pos (f168_iff.mpr hw)]) (bad U h (by omega))
  have cw : ¬ f_168 w U = 0 := fun q => f168_iff.mp q hw
  by_cases hx : 0 ≤ x.toInt ∧ x.toInt < nM
  case neg => exact farJ_to h0 (w := 5) (by decide) (by unfold f_135; rw [if_neg cw, open_no h hx, Option.bind_some]; rfl) (bad U h (by omega))
  obtain ⟨t, n, V, ht, o1, o2, hM, ex⟩ := open_mg h hx
  have t8 := hM.2.1.1
  refine two_j h0 (v := mwo U x.toNatClampNeg t n (if w = 0 then (U.1 (5 + 5 * t) 4).toInt else (U.1 (5 + 5 * t) 3).toInt)) ?_ ?_
  · obtain ⟨f1, f2, f3, f4, f5, f6, f7, f8⟩ := opn_facts t8 o2
    obtain ⟨r, r1, r2, _⟩ := worth_ok (x := w) o2.2.2.1
    unfold f_135
    rw [if_neg cw, o1, Option.bind_some]
    dsimp only
    rw [if_neg (by decide), r1]
    refine ⟨r, V, rfl, o2.1, ?_⟩
    rw [r2, f1, f2, f3, f4, f5, f6, f7, f8]
    rfl
  · intro Y hY
    have hMY := MG_same hM hY
    have hTY := hMY.2.1
    have c12 : ib x 12 := ib_int.mpr (by omega)
    have it8 : ib (Int32.ofNat t) 8 := ib_ofNat (by omega) t8
    have et2 : (Int32.ofNat t).toNatClampNeg = t := ofNat_clamp (by omega)
    have l4 := hM.2.1.2.2.2.2.1
    have l3 := hM.2.1.2.2.2.1
    have y4 : Y.1 290 t = U.1 (5 + 5 * t) 4 := by rw [hY.1 290 t (by unfold scr; omega)]; exact l4.1
    have y3 : Y.1 289 t = U.1 (5 + 5 * t) 3 := by rw [hY.1 289 t (by unfold scr; omega)]; exact l3.1
    unfold f_233
    rw [if_neg (f180_yes (InvN_same hY h).1.2.2 n8 hx), if_neg (by rw [i32_lt0]; omega), if_pos (by rw [i32_le, e1]; omega)]
    simp only [if_pos c12, hMY.2.2.1, if_pos it8, et2, y4, y3]
    by_cases hw0 : w = 0
    · rw [if_pos hw0, if_pos hw0]
      obtain ⟨r, Z, r1, r2, r3⟩ := worthOf_m hMY ex (s := U.1 (5 + 5 * t) 4) (by omega)
      rw [r1]
      exact ⟨r, Z, rfl, r2, r3.trans (mwo_same hY hM.1 t8)⟩
    · rw [if_neg hw0, if_neg hw0]
      obtain ⟨r, Z, r1, r2, r3⟩ := worthOf_m hMY ex (s := U.1 (5 + 5 * t) 3) (by omega)
      rw [r1]
      exact ⟨r, Z, rfl, r2, r3.trans (mwo_same hY hM.1 t8)⟩
/-- the words and truths that a call names -/
theorem f102_T {V : sU} {T n : Nat} {x : Int32} (h : V.1 T 2 = Int32.ofNat n) (hn : n ≤ 12) : f_102 T x V = 0 ↔ ¬ (0 ≤ x.toInt ∧ x.toInt < n) := by
  unfold f_102
  rw [h]
  by_cases h1 : x < 0
  · rw [if_pos h1]; rw [i32_lt0] at h1
    exact ⟨fun _ => by omega, fun _ => rfl⟩
  rw [if_neg h1]; rw [i32_lt0] at h1
  by_cases h2 : Int32.ofNat n ≤ x
  · rw [if_pos h2]; rw [i32_le, ofNat_int (by omega)] at h2
    exact ⟨fun _ => by omega, fun _ => rfl⟩
  rw [if_neg h2]; rw [i32_le, ofNat_int (by omega)] at h2
  exact ⟨fun q => absurd q (by decide), fun q => absurd (by omega) q⟩
theorem f179_m {V : sU} {nT t n : Nat} {x : Int32} (h1 : V.1 280 0 = Int32.ofNat nT) (h8 : nT ≤ 8) (ht : t < nT) (h : V.1 288 t = Int32.ofNat n) (hn : n ≤ 12) : f_179 (Int32.ofNat t) x V = some (if 0 ≤ x.toInt ∧ x.toInt < n then 1 else 0) := by
  have et : (Int32.ofNat t).toInt = t := ofNat_int (by omega)
  unfold f_179
  rw [if_neg (f178_yes h1 h8 (by omega))]
  by_cases c1 : x < 0
  · rw [if_pos c1]; rw [i32_lt0] at c1
    rw [if_neg (by omega)]
  rw [if_neg c1, if_pos (ib_ofNat (by omega) (by omega)), ofNat_clamp (by omega), h]; rw [i32_lt0] at c1
  by_cases c2 : Int32.ofNat n ≤ x
  · rw [if_pos c2]; rw [i32_le, ofNat_int (by omega)] at c2
    rw [if_neg (by omega)]
  · rw [if_neg c2]; rw [i32_le, ofNat_int (by omega)] at c2
    rw [if_pos (by omega)]
theorem f43_iff {V : sU} {a n : Nat} {W : Nat → Nat} (hW : ∀ i, i < n → W i < 12) (h9 : V.1 a 9 = Int32.ofNat (zub W n)) {y : Int32} : f_43 a y V = 0 ↔ ¬ (0 ≤ y.toInt ∧ y.toInt < 12 ∧ (zub W n).testBit y.toNatClampNeg = true) := by
  by_cases hy : 0 ≤ y.toInt ∧ y.toInt < 12
  · have e : y = Int32.ofNat y.toNatClampNeg := i32_nat hy.1
    have c : y.toNatClampNeg < 12 := by rw [clamp_int]; omega
    rw [e, f43_eq h9 (zub_lt hW) c, ofNat_clamp (by omega)]
    by_cases k : (zub W n).testBit y.toNatClampNeg = true
    · rw [if_pos k]
      exact ⟨fun q => absurd q (by decide), fun q => absurd ⟨by rw [ofNat_int (by omega)]; omega, by rw [ofNat_int (by omega)]; omega, k⟩ q⟩
    · rw [if_neg k]
      exact ⟨fun _ q => k q.2.2, fun _ => rfl⟩
  · rw [f43_no hy]
    exact ⟨fun _ q => hy ⟨q.1, q.2.1⟩, fun _ => rfl⟩
theorem f219_m {M : sU} {k t n : Nat} (h : MG M k t n) {x y : Int32} (hx : x.toInt = k) : f_219 x y M = some (if 0 ≤ y.toInt ∧ y.toInt < 12 ∧ (zub (mW M k) n).testBit y.toNatClampNeg = true then 1 else 0) := by
  have e12 : (12 : Int32).toInt = 12 := rfl
  obtain ⟨u1, u2⟩ := used_m h hx
  obtain ⟨_, _, hq⟩ := MG_un h
  unfold f_219
  by_cases c1 : y < 0
  · rw [if_pos c1]; rw [i32_lt0] at c1
    rw [if_neg (by omega)]
  rw [if_neg c1]; rw [i32_lt0] at c1
  by_cases c2 : 12 ≤ y
  · rw [if_pos c2]; rw [i32_le, e12] at c2
    rw [if_neg (by omega)]
  rw [if_neg c2]; rw [i32_le, e12] at c2
  rw [u1, Option.bind_some]
  have e : y = Int32.ofNat y.toNatClampNeg := i32_nat (by omega)
  have c : y.toNatClampNeg < 12 := by rw [clamp_int]; omega
  by_cases k2 : (zub (mW M k) n).testBit y.toNatClampNeg = true
  · rw [if_pos (by rw [e]; exact (bit_at hq c).1.mpr k2), if_pos ⟨by omega, by omega, k2⟩]
  · rw [if_neg (by rw [e]; exact fun g => k2 ((bit_at hq c).1.mp g)), if_neg (fun q => k2 q.2.2)]
