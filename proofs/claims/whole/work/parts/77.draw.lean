/-! draw: the reference, and both -/
theorem below_m {nu : Int32 → Int32} (hg : Nu nu) {V : sU} {x : Int32} (hx : 0 < x.toInt) : ∃ r, f_269 x V = some (r, sI V 280 51 (nu (V.1 280 51))) ∧ r.toInt = lot (nu (V.1 280 51)) x.toInt ∧ 0 ≤ r.toInt ∧ r.toInt < x.toInt := by
  have e0 : (0 : Int32).toInt = 0 := rfl
  obtain ⟨l1, l2, l3⟩ := lot_m (hg.2 (V.1 280 51)) hx
  have e : ((V.1 280 51) * 1103515245 + 12345 &&& 2147483647) = nu (V.1 280 51) := hg.1 _
  unfold f_269
  rw [if_pos (by rw [i32_eq, e0]; omega), e, sI_at]
  exact ⟨_, rfl, l1, by rw [l1]; exact l2, by rw [l1]; exact l3⟩
theorem Ac_51 {M V : sU} {k t n : Nat} (h : Ac M V k t n) (v : Int32) : Ac M (sI V 280 51 v) k t n := by
  obtain ⟨a1, a2, a3, a4⟩ := h
  refine ⟨a1.sI v (by unfold scr; omega), by rw [sI_nj (by omega)]; exact a2, by rw [sI_nj (by omega)]; exact a3, fun w hw hu => ?_⟩
  rw [sI_ne (by omega)]
  exact a4 w hw hu
/-- what one draw adds -/
theorem add_m {M V : sU} {k t n j w : Nat} (h : MG M k t n) (ha : Ac M V k t n) {x v3 v5 v8 : Int32} {v6 : Int64} (hj : j < n) (hw : w < 12) (hu : (zub (mW M k) n).testBit w = true) (k98 : Int32 → Int32 → Int32 → Int32 → Int64 → Int32 → sU → Option (Int64 × sU)) : ∃ r : Int64, f_270_246 k98 x v3 (Int32.ofNat t) v5 v6 v8 (Int32.ofNat j) (Int32.ofNat w) V = k98 x v3 (Int32.ofNat t) v5 (v6 + r) (v8 + 1) V ∧ r.toInt = zD (M.1 (5 + 5 * t) 6) (mA M k (5 + 5 * t) n) (gX M (5 + 5 * t)) (M.1 (5 + 5 * t) 4).toInt j w ∧ 0 ≤ r.toInt ∧ r.toInt ≤ 2560000 := by
  have hS := ha.1
  have hMV := MT_same h.2.1 hS
  have t8 := h.2.1.1
  have n12 := h.2.1.2.1.2.2.1
  have t5 := h.2.1.2.1.2.2.2.2.1 j hj
  have hl := h.2.1.2.2.2.2.1
  have bA := mA_bd h hw
  have et : (Int32.ofNat t).toInt = t := ofNat_int (by omega)
  have et2 : (Int32.ofNat t).toNatClampNeg = t := ofNat_clamp (by omega)
  have it8 : ib (Int32.ofNat t) 8 := ib_ofNat (by omega) t8
  obtain ⟨m1, m2⟩ := mul12 (s := Int32.ofNat t) (i := Int32.ofNat j) et (ofNat_int (by omega)) (by omega) (by omega)
  have eX : (V.1 296 (12 * t + j)).toInt = gX M (5 + 5 * t) j := by
    rw [(hMV.2.2.2.2.2.2.2.2.2.2 j hj).1]
    unfold gX
    rw [hS.lo (by omega)]
  have eL : V.1 290 t = M.1 (5 + 5 * t) 4 := by rw [hMV.2.2.2.2.1.1, hS.lo (by omega)]
  have eA := ha.2.2.2 w hw hu
  have d1 : (V.1 306 w - V.1 296 (12 * t + j)).toInt = mA M k (5 + 5 * t) n w - gX M (5 + 5 * t) j := by rw [s32 (by rw [eA, eX]; omega) (by rw [eA, eX]; omega), eA, eX]
  have d2 : (V.1 306 w - V.1 296 (12 * t + j) - M.1 (5 + 5 * t) 4).toInt64.toInt = mA M k (5 + 5 * t) n w - gX M (5 + 5 * t) j - (M.1 (5 + 5 * t) 4).toInt := by rw [w64, s32 (by rw [d1]; omega) (by rw [d1]; omega), d1]
  obtain ⟨r, r1, r2⟩ := loses_m hMV et (d := (V.1 306 w - V.1 296 (12 * t + j) - M.1 (5 + 5 * t) 4).toInt64) (by rw [d2]; omega) (by rw [d2]; omega)
  have e : r.toInt = zD (M.1 (5 + 5 * t) 6) (mA M k (5 + 5 * t) n) (gX M (5 + 5 * t)) (M.1 (5 + 5 * t) 4).toInt j w := by rw [r2, d2, hS.lo (by omega : 5 + 5 * t < 210)]; rfl
  have bd := zD_bd (q := M.1 (5 + 5 * t) 6) (A := mA M k (5 + 5 * t) n) (X := gX M (5 + 5 * t)) (s := (M.1 (5 + 5 * t) 4).toInt) (j := j) (w := w) bA ⟨t5.1, t5.2.1⟩ (by omega)
  refine ⟨r, ?_, e, by rw [e]; exact bd.1, by rw [e]; exact bd.2⟩
  unfold f_270_246
  rw [if_pos (ib_ofNat (by omega) hw), if_pos (ib_int.mpr (by omega)), if_pos it8, ofNat_clamp (by omega), m2, et2, eL, r1, Option.bind_some]
/-- the word heard, by its place among the used -/
theorem place_m {M V : sU} {k t n wd : Nat} (h : MG M k t n) (ha : Ac M V k t n) (hw : wd < 12) (hu : (zub (mW M k) n).testBit wd = true) {x v3 v5 v8 j p : Int32} {v6 : Int64} (hp : p.toInt = zpn (zub (mW M k) n) wd) (k98 : Int32 → Int32 → Int32 → Int32 → Int64 → Int32 → sU → Option (Int64 × sU)) : f_270_212 k98 FU x v3 (Int32.ofNat t) v5 v6 v8 j (-1) p 0 V = f_270_246 k98 x v3 (Int32.ofNat t) v5 v6 v8 j (Int32.ofNat wd) V := by
  obtain ⟨un1, un12, hq⟩ := MG_un h
  have h43 := ha.2.1
  have pl := zpn_le (zub (mW M k) n) wd
  have e0 : (0 : Int32).toInt = 0 := rfl
  have em1 : ((-1) : Int32) + 1 = Int32.ofNat 0 := rfl
  -- from w on to the next used word
  have skip : ∀ (m : Nat) (c : Nat) (i : Int32), c ≤ wd → ∃ w', c ≤ w' ∧ w' ≤ wd ∧ (zub (mW M k) n).testBit w' = true ∧ zpn (zub (mW M k) n) w' = zpn (zub (mW M k) n) c ∧ f_270_222 (fun v1 v3 v4 v5 v6 v8 v10 v11 v12 v13 U => f_270_212 k98 m v1 v3 v4 v5 v6 v8 v10 v11 v12 v13 U) FU x v3 (Int32.ofNat t) v5 v6 v8 j (Int32.ofNat c) p i V = f_270_212 k98 m x v3 (Int32.ofNat t) v5 v6 v8 j (Int32.ofNat w') p (i + 1) V := by
    intro m c i hc
    refine loop_ex (fun m' (s : Int32) => f_270_222 (fun v1 v3 v4 v5 v6 v8 v10 v11 v12 v13 U => f_270_212 k98 m v1 v3 v4 v5 v6 v8 v10 v11 v12 v13 U) m' x v3 (Int32.ofNat t) v5 v6 v8 j s p i V) (fun q s => c + q ≤ wd ∧ s = Int32.ofNat (c + q) ∧ zpn (zub (mW M k) n) (c + q) = zpn (zub (mW M k) n) c) (fun o => ∃ w', c ≤ w' ∧ w' ≤ wd ∧ (zub (mW M k) n).testBit w' = true ∧ zpn (zub (mW M k) n) w' = zpn (zub (mW M k) n) c ∧ o = f_270_212 k98 m x v3 (Int32.ofNat t) v5 v6 v8 j (Int32.ofNat w') p (i + 1) V) 12 ?_ ?_ 12 0 FU (Int32.ofNat c) (by omega) (by unfold FU; omega) ⟨by omega, rfl, rfl⟩
    · rintro q s m' hq' ⟨hle, rfl, hz⟩
      have b := bit_at hq (show c + q < 12 by omega)
      rw [f_270_222, h43, b.2.2]
      by_cases ht : (zub (mW M k) n).testBit (c + q) = true
      · rw [if_neg (by rw [if_pos ht]; decide)]
        exact Or.inl ⟨c + q, by omega, hle, ht, hz, rfl⟩
      · rw [if_pos (by rw [if_neg ht]; rfl), ofNat_succ]
        have hne : c + q ≠ wd := fun e => ht (by rw [e]; exact hu)
        have h1 := zpn_succ (zub (mW M k) n) (c + q)
        rw [if_neg ht] at h1
        exact Or.inr ⟨Int32.ofNat (c + q + 1), ⟨by omega, rfl, by show zpn _ (c + q + 1) = _; omega⟩, rfl⟩
    · rintro s m' ⟨hle, _⟩
      omega
  refine loop_ex (fun m (s : Int32 × Int32) => f_270_212 k98 m x v3 (Int32.ofNat t) v5 v6 v8 j s.1 p s.2 V) (fun q s => s.2 = Int32.ofNat q ∧ ((q = 0 ∧ s.1 = -1) ∨ ∃ w, w ≤ wd ∧ s.1 = Int32.ofNat w ∧ (zub (mW M k) n).testBit w = true ∧ zpn (zub (mW M k) n) w + 1 = q)) (fun o => o = f_270_246 k98 x v3 (Int32.ofNat t) v5 v6 v8 j (Int32.ofNat wd) V) (zpn (zub (mW M k) n) wd + 1) ?_ ?_ (zpn (zub (mW M k) n) wd + 1) 0 FU (-1, 0) (by omega) (by unfold FU; omega) ⟨rfl, Or.inl ⟨rfl, rfl⟩⟩
  · rintro q ⟨c, i⟩ m hq' ⟨rfl, hc⟩
    dsimp only at hc ⊢
    refine Or.inr ?_
    rw [f_270_212, if_neg (by rw [i32_lt, hp, ofNat_int (by omega)]; omega)]
    rcases hc with ⟨rfl, rfl⟩ | ⟨w, w1, rfl, w2, w3⟩
    · rw [em1]
      obtain ⟨w', a1, a2, a3, a4, a5⟩ := skip m 0 (Int32.ofNat 0) (by omega)
      rw [a5, ofNat_succ]
      exact ⟨(Int32.ofNat w', Int32.ofNat (0 + 1)), ⟨rfl, Or.inr ⟨w', a2, rfl, a3, by rw [a4]; rfl⟩⟩, rfl⟩
    · rw [ofNat_succ]
      have h1 := zpn_succ (zub (mW M k) n) w
      rw [if_pos w2] at h1
      have hlt : w < wd := by
        by_cases e : w < wd
        · exact e
        · have : w = wd := by omega
          subst this
          omega
      obtain ⟨w', a1, a2, a3, a4, a5⟩ := skip m (w + 1) (Int32.ofNat q) (by omega)
      rw [a5, ofNat_succ]
      exact ⟨(Int32.ofNat w', Int32.ofNat (q + 1)), ⟨rfl, Or.inr ⟨w', a2, rfl, a3, by omega⟩⟩, rfl⟩
  · rintro ⟨c, i⟩ m ⟨rfl, hc⟩
    dsimp only at hc ⊢
    rcases hc with ⟨hq', _⟩ | ⟨w, w1, rfl, w2, w3⟩
    · omega
    · have h1 := zpn_succ (zub (mW M k) n) w
      rw [if_pos w2] at h1
      have e : w = wd := by
        by_cases e : w = wd
        · exact e
        · have h2 := zpn_mono2 (u := zub (mW M k) n) (show w + 1 ≤ wd by omega)
          omega
      subst e
      rw [f_270_212, if_pos (by rw [i32_lt, hp, ofNat_int (by omega)]; omega)]
theorem drawn_m {nu : Int32 → Int32} (hg : Nu nu) {M V : sU} {k t n : Nat} (h : MG M k t n) (ha : Ac M V k t n) {x seed times : Int32} (hx : x.toInt = k) (ht : 0 ≤ times.toInt ∧ times.toInt ≤ 200) : ∃ r Z, f_270_47 FU x seed times (Int32.ofNat t) 0 0 V = some (r, Z) ∧ Same M Z ∧ r.toInt = (zdr (zdo nu n (zub (mW M k) n) (mBl M k) (mCl M k) (zpc (zub (mW M k) n)) (gC M (5 + 5 * t)) (mW M k)) (zD (M.1 (5 + 5 * t) 6) (mA M k (5 + 5 * t) n) (gX M (5 + 5 * t)) (M.1 (5 + 5 * t) 4).toInt) (seed &&& 2147483647) times.toNatClampNeg).2 := by
  have hS := ha.1
  have hMV := MT_same h.2.1 hS
  have t8 := h.2.1.1
  have hT := h.2.1.2.1
  have n1 := hT.2.1
  have n12 := hT.2.2.1
  have t5 := hT.2.2.2.2.1
  obtain ⟨un1, un12, hq⟩ := MG_un h
  have hW : ∀ i, i < n → mW M k i < 12 := fun i hi => (h.2.2.2.2.2.2.2.1 i hi).2
  have hl := h.2.1.2.2.2.2.1
  have et : (Int32.ofNat t).toInt = t := ofNat_int (by omega)
  have et2 : (Int32.ofNat t).toNatClampNeg = t := ofNat_clamp (by omega)
  have it8 : ib (Int32.ofNat t) 8 := ib_ofNat (by omega) t8
  have ex : x.toNatClampNeg = k := by rw [clamp_int]; omega
  have k12 := h.1
  have i12 : ib x 12 := ib_int.mpr (by omega)
  have e100 : (100 : Int32).toInt = 100 := rfl
  have i96 : ∀ i, i < n → ib (12 * Int32.ofNat t + Int32.ofNat i) 96 ∧ (12 * Int32.ofNat t + Int32.ofNat i).toNatClampNeg = 12 * t + i := by
    intro i hi
    obtain ⟨m1, m2⟩ := mul12 (s := Int32.ofNat t) (i := Int32.ofNat i) et (ofNat_int (by omega)) (by omega) (by omega)
    exact ⟨ib_int.mpr (by omega), m2⟩
  have i144 : ∀ i, i < n → ib (12 * x + Int32.ofNat i) 144 ∧ (12 * x + Int32.ofNat i).toNatClampNeg = 12 * k + i := by
    intro i hi
    obtain ⟨m1, m2⟩ := mul12 (s := x) (i := Int32.ofNat i) hx (ofNat_int (by omega)) (by omega) (by omega)
    exact ⟨ib_int.mpr (by omega), m2⟩
  have cI : ∀ Z : sU, Same M Z → ∀ i, i < n → (Z.1 297 (12 * t + i)).toInt = gC M (5 + 5 * t) i := by
    intro Z hZ i hi
    rw [((MT_same h.2.1 hZ).2.2.2.2.2.2.2.2.2.2 i hi).2]
    unfold gC
    rw [hZ.lo (by omega)]
  have csb : ∀ i, i ≤ n → 0 ≤ zs (gC M (5 + 5 * t)) i ∧ zs (gC M (5 + 5 * t)) i ≤ 12 * 99 := fun i hi => zs_bd (by omega) (fun j hj => by have := t5 j (by omega); omega) (by omega)
  have cpos : 0 < zs (gC M (5 + 5 * t)) n := by
    have := zs_ge (f := gC M (5 + 5 * t)) (n := n) (j := 0) (fun i hi => by have := t5 i hi; omega) (by omega)
    have := t5 0 (by omega)
    omega
  have eti : times = Int32.ofNat times.toNatClampNeg := i32_nat ht.1
  have tn : times.toNatClampNeg ≤ 200 := by rw [clamp_int]; omega
  generalize htt : times.toNatClampNeg = N at *
  generalize hf : zdo nu n (zub (mW M k) n) (mBl M k) (mCl M k) (zpc (zub (mW M k) n)) (gC M (5 + 5 * t)) (mW M k) = f
  generalize hLs : zD (M.1 (5 + 5 * t) 6) (mA M k (5 + 5 * t) n) (gX M (5 + 5 * t)) (M.1 (5 + 5 * t) 4).toInt = Ls
  have fw : ∀ z, (f z).2.2 < 12 ∧ (zub (mW M k) n).testBit (f z).2.2 = true ∧ (f z).2.1 < n ∧ (f z).2.1 = zdt n (gC M (5 + 5 * t)) (lot (nu z) (zs (gC M (5 + 5 * t)) n)) := by
    intro z
    have zw := zdo_w (nu := nu) (bl := mBl M k) (cl := mCl M k) (z := z) n1 cpos hW
    have zt := zdo_t (nu := nu) (n := n) (u := zub (mW M k) n) (bl := mBl M k) (cl := mCl M k) (un := zpc (zub (mW M k) n)) (C := gC M (5 + 5 * t)) (W := mW M k) (z := z)
    rw [hf] at zw zt
    exact ⟨zw.1, zw.2.1, by rw [zt]; exact zw.2.2, zt⟩
  have lb : ∀ z, 0 ≤ Ls (f z).2.1 (f z).2.2 ∧ Ls (f z).2.1 (f z).2.2 ≤ 2560000 := by
    intro z
    have w := fw z
    have bx := t5 _ w.2.2.1
    rw [← hLs]
    exact zD_bd (mA_bd h w.1) ⟨bx.1, bx.2.1⟩ (by omega)
  have sb : ∀ k', k' ≤ 200 → 0 ≤ (zdr f Ls (seed &&& 2147483647) k').2 ∧ (zdr f Ls (seed &&& 2147483647) k').2 ≤ k' * 2560000 := by
    intro k'
    induction k' with
    | zero => intro _; show (0 : Int) ≤ 0 ∧ (0 : Int) ≤ _; omega
    | succ k' ih =>
      intro hk
      have h1 := ih (by omega)
      have h2 := lb (zdr f Ls (seed &&& 2147483647) k').1
      show 0 ≤ _ + _ ∧ _ + _ ≤ _
      omega
  -- the rounds
  have rounds : ∀ (sum : Int32) (V0 : sU), sum.toInt = zs (gC M (5 + 5 * t)) n → Ac M V0 k t n → V0.1 280 51 = seed &&& 2147483647 → ∃ r Z, f_270_98 FU x times (Int32.ofNat t) sum 0 0 V0 = some (r, Z) ∧ Same M Z ∧ r.toInt = (zdr f Ls (seed &&& 2147483647) N).2 := by
    intro sum V0 hsum hA0 hz0
    refine loop_ex (fun m (s : Int64 × Int32 × sU) => f_270_98 m x times (Int32.ofNat t) sum s.1 s.2.1 s.2.2) (fun k' s => s.2.1 = Int32.ofNat k' ∧ Ac M s.2.2 k t n ∧ s.2.2.1 280 51 = (zdr f Ls (seed &&& 2147483647) k').1 ∧ s.1.toInt = (zdr f Ls (seed &&& 2147483647) k').2) (fun o => ∃ r Z, o = some (r, Z) ∧ Same M Z ∧ r.toInt = (zdr f Ls (seed &&& 2147483647) N).2) N ?_ ?_ N 0 FU (0, 0, V0) (by omega) (by unfold FU; omega) ⟨rfl, hA0, hz0, rfl⟩
    · rintro k' ⟨s, c, Z⟩ m hk' ⟨rfl, hA, hz, hs⟩
      dsimp only at hA hz hs ⊢
      refine Or.inr ?_
      have sk := sb k' (by omega)
      have w := fw (Z.1 280 51)
      have lbz := lb (Z.1 280 51)
      obtain ⟨y, y1, y2, y3, y4⟩ := below_m hg (V := Z) (x := sum) (by omega)
      have hA1 := Ac_51 hA (nu (Z.1 280 51))
      generalize hZ1 : sI Z 280 51 (nu (Z.1 280 51)) = Z1 at *
      have z51 : Z1.1 280 51 = nu (Z.1 280 51) := by rw [← hZ1, sI_at]
      rw [hsum] at y2 y4
      obtain ⟨d1, d2, d3⟩ := zdt_ok (C := gC M (5 + 5 * t)) (L := lot (nu (Z.1 280 51)) (zs (gC M (5 + 5 * t)) n)) (by omega) n1
      rw [f_270_98, eti, if_neg (by rw [i32_le, ofNat_int (by omega), ofNat_int (by omega)]; omega), y1, Option.bind_some]
      dsimp only
      rw [← eti]
      -- after the truth is found
      have after : ∀ (m' : Nat) (left : Int32), left.toInt < gC M (5 + 5 * t) (f (Z.1 280 51)).2.1 → ∃ s' : Int64 × Int32 × sU, (s'.2.1 = Int32.ofNat (k' + 1) ∧ Ac M s'.2.2 k t n ∧ s'.2.2.1 280 51 = (zdr f Ls (seed &&& 2147483647) (k' + 1)).1 ∧ s'.1.toInt = (zdr f Ls (seed &&& 2147483647) (k' + 1)).2) ∧ f_270_115 (fun v1 v3 v4 v5 v6 v8 U => f_270_98 m v1 v3 v4 v5 v6 v8 U) (m' + 1) x times (Int32.ofNat t) sum s (Int32.ofNat k') left (Int32.ofNat (f (Z.1 280 51)).2.1) Z1 = f_270_98 m x times (Int32.ofNat t) sum s'.1 s'.2.1 s'.2.2 := by
        intro m' left hleft
        have tdn := w.2.2.1
        obtain ⟨j1, j2⟩ := i96 _ tdn
        obtain ⟨j3, j4⟩ := i144 _ tdn
        have c1 := cI Z1 hA1.1 _ tdn
        have hG1 := MG_same h hA1.1
        have eW : Z1.1 301 (12 * k + (f (Z.1 280 51)).2.1) = Int32.ofNat (mW M k (f (Z.1 280 51)).2.1) := by
          have := (hG1.2.2.2.2.2.2.2.1 _ tdn).1
          rwa [mW_same hA1.1 k12] at this
        have e299 : Z1.1 299 k = M.1 (45 + 5 * k) 2 := by rw [hG1.2.2.2.2.1, hA1.1.lo (by omega)]
        -- adding with a store and a word
        have fin : ∀ (Y : sU) (wd : Nat), Ac M Y k t n → wd = (f (Z.1 280 51)).2.2 → Y.1 280 51 = (f (Z.1 280 51)).1 → ∃ s' : Int64 × Int32 × sU, (s'.2.1 = Int32.ofNat (k' + 1) ∧ Ac M s'.2.2 k t n ∧ s'.2.2.1 280 51 = (zdr f Ls (seed &&& 2147483647) (k' + 1)).1 ∧ s'.1.toInt = (zdr f Ls (seed &&& 2147483647) (k' + 1)).2) ∧ f_270_246 (fun v1 v3 v4 v5 v6 v8 U => f_270_98 m v1 v3 v4 v5 v6 v8 U) x times (Int32.ofNat t) sum s (Int32.ofNat k') (Int32.ofNat (f (Z.1 280 51)).2.1) (Int32.ofNat wd) Y = f_270_98 m x times (Int32.ofNat t) sum s'.1 s'.2.1 s'.2.2 := by
          intro Y wd hY hwd hY51
          subst hwd
          obtain ⟨r, r1, r2, r3, r4⟩ := add_m h hY (x := x) (v3 := times) (v5 := sum) (v8 := Int32.ofNat k') (v6 := s) tdn w.1 w.2.1 (fun v1 v3 v4 v5 v6 v8 U => f_270_98 m v1 v3 v4 v5 v6 v8 U)
          rw [hLs] at r2
          rw [r1, ofNat_succ]
          refine ⟨(s + r, Int32.ofNat (k' + 1), Y), ⟨rfl, hY, ?_, ?_⟩, rfl⟩
          · show Y.1 280 51 = (f (zdr f Ls _ k').1).1
            rw [← hz, hY51]
          · show _ = (zdr f Ls _ k').2 + Ls (f (zdr f Ls _ k').1).2.1 (f (zdr f Ls _ k').1).2.2
            rw [← hz]
            dsimp only
            rw [a64 (by rw [hs]; omega) (by rw [hs]; omega), hs, r2]
        rw [f_270_115]
        simp only [if_pos j1, j2, if_pos j3, j4, eW, if_pos i12, ex, e299]
        rw [if_pos (by rw [i32_lt, c1]; exact hleft)]
        have zt := w.2.2.2
        by_cases k2 : M.1 (45 + 5 * k) 2 = 2
        · have b1 : mBl M k = 1 := if_pos k2
          have b2 : mCl M k = (M.1 (45 + 5 * k) 4).toInt := if_pos k2
          obtain ⟨p1, p2, p3⟩ := h.2.2.2.2.2.2.1 k2
          obtain ⟨g, g1, g2, g3, g4⟩ := below_m hg (V := Z1) (x := 100) (by decide)
          have hA2 := Ac_51 hA1 (nu (Z1.1 280 51))
          rw [e100] at g2
          rw [if_pos k2, g1, Option.bind_some]
          generalize hZ2 : sI Z1 280 51 (nu (Z1.1 280 51)) = Z2 at *
          have z512 : Z2.1 280 51 = nu (nu (Z.1 280 51)) := by rw [← hZ2, sI_at, z51]
          rw [z51] at g2
          have e300 : Z2.1 300 k = M.1 (45 + 5 * k) 4 := by rw [hA2.1.1 300 k (by unfold scr; omega)]; exact p1
          dsimp only
          rw [e300]
          by_cases hc : lot (nu (nu (Z.1 280 51))) 100 < mCl M k
          · rw [if_pos (by rw [i32_lt, g2, ← b2]; exact hc)]
            refine fin Z2 _ hA2 ?_ ?_
            · rw [← hf]
              unfold zdo
              rw [if_neg (by rw [b1]; decide), if_pos hc]
            · rw [z512, ← hf]
              unfold zdo
              rw [if_neg (by rw [b1]; decide), if_pos hc]
          · rw [if_neg (by rw [i32_lt, g2, ← b2]; exact hc), hA2.2.2.1]
            have eu : (Int32.ofNat (zpc (zub (mW M k) n))).toInt = zpc (zub (mW M k) n) := ofNat_int (by omega)
            obtain ⟨q, q1, q2, q3, q4⟩ := below_m hg (V := Z2) (x := Int32.ofNat (zpc (zub (mW M k) n))) (by omega)
            have hA3 := Ac_51 hA2 (nu (Z2.1 280 51))
            rw [eu, z512] at q2
            rw [q1, Option.bind_some]
            generalize hZ3 : sI Z2 280 51 (nu (Z2.1 280 51)) = Z3 at *
            have z513 : Z3.1 280 51 = nu (nu (nu (Z.1 280 51))) := by rw [← hZ3, sI_at, z512]
            dsimp only
            have ew : (f (Z.1 280 51)).2.2 = zdw (zub (mW M k) n) (lot (nu (nu (nu (Z.1 280 51)))) (zpc (zub (mW M k) n))) := by
              rw [← hf]
              unfold zdo
              rw [if_neg (by rw [b1]; decide), if_neg hc]
            obtain ⟨wd, w1, w2, w3⟩ := zdw_ok (u := zub (mW M k) n) (p := q.toNatClampNeg) (by rw [clamp_int]; omega)
            have qk : (q.toNatClampNeg : Int) = q.toInt := by rw [clamp_int]; omega
            have ew2 : zdw (zub (mW M k) n) (lot (nu (nu (nu (Z.1 280 51)))) (zpc (zub (mW M k) n))) = wd := zdw_is w1 w2 (by rw [w3, ← q2]; exact qk)
            rw [place_m h hA3 w1 w2 (by rw [w3]; exact qk.symm)]
            refine fin Z3 wd hA3 (by rw [ew, ew2]) ?_
            rw [z513, ← hf]
            unfold zdo
            rw [if_neg (by rw [b1]; decide), if_neg hc]
        · have b1 : mBl M k = 0 := if_neg k2
          rw [if_neg k2]
          refine fin Z1 _ hA1 ?_ ?_
          · rw [← hf]
            unfold zdo
            rw [if_pos b1]
          · rw [z51, ← hf]
            unfold zdo
            rw [if_pos b1]
      -- finding the truth
      generalize htd : (f (Z.1 280 51)).2.1 = td at *
      have ztd : zdt n (gC M (5 + 5 * t)) (lot (nu (Z.1 280 51)) (zs (gC M (5 + 5 * t)) n)) = td := w.2.2.2.symm
      rw [ztd] at d1 d2 d3
      refine loop_ex (fun m' (s' : Int32 × Int32) => f_270_115 (fun v1 v3 v4 v5 v6 v8 U => f_270_98 m v1 v3 v4 v5 v6 v8 U) m' x times (Int32.ofNat t) sum s (Int32.ofNat k') s'.1 s'.2 Z1) (fun i s' => i ≤ td ∧ s'.2 = Int32.ofNat i ∧ s'.1.toInt = lot (nu (Z.1 280 51)) (zs (gC M (5 + 5 * t)) n) - zs (gC M (5 + 5 * t)) i) (fun o => ∃ s' : Int64 × Int32 × sU, (s'.2.1 = Int32.ofNat (k' + 1) ∧ Ac M s'.2.2 k t n ∧ s'.2.2.1 280 51 = (zdr f Ls (seed &&& 2147483647) (k' + 1)).1 ∧ s'.1.toInt = (zdr f Ls (seed &&& 2147483647) (k' + 1)).2) ∧ o = f_270_98 m x times (Int32.ofNat t) sum s'.1 s'.2.1 s'.2.2) n ?_ ?_ n 0 FU (y, 0) (by omega) (by unfold FU; omega) ⟨by omega, rfl, by show y.toInt = _ - 0; omega⟩
      · rintro i ⟨left, c⟩ m' hi ⟨hitd, rfl, hleft⟩
        dsimp only at hleft ⊢
        have e1 : zs (gC M (5 + 5 * t)) (i + 1) = zs (gC M (5 + 5 * t)) i + gC M (5 + 5 * t) i := rfl
        by_cases e : i = td
        · subst e
          exact Or.inl (after m' left (by omega))
        · have := d3 i (by omega)
          obtain ⟨j1, j2⟩ := i96 i hi
          have c1 := cI Z1 hA1.1 i hi
          have bc := t5 i hi
          have cs := csb i (by omega)
          have cn := csb n (Nat.le_refl _)
          rw [f_270_115]
          simp only [if_pos j1, j2]
          rw [if_neg (by rw [i32_lt, c1]; omega), ofNat_succ]
          refine Or.inr ⟨(left - Z1.1 297 (12 * t + i), Int32.ofNat (i + 1)), ⟨by omega, rfl, ?_⟩, rfl⟩
          dsimp only
          rw [s32 (by rw [c1]; omega) (by rw [c1]; omega), c1]
          omega
      · rintro ⟨left, c⟩ m' ⟨hitd, _⟩
        omega
    · rintro ⟨s, c, Z⟩ m ⟨rfl, hA, hz, hs⟩
      dsimp only at hA hz hs ⊢
      rw [f_270_98, eti, if_pos (by rw [i32_le]; omega)]
      exact ⟨s, Z, rfl, hA.1, hs⟩
  -- the sum of chances
  refine loop_ex (fun m (s : Int32 × Int32) => f_270_47 m x seed times (Int32.ofNat t) s.1 s.2 V) (fun i s => s.2 = Int32.ofNat i ∧ s.1.toInt = zs (gC M (5 + 5 * t)) i) (fun o => ∃ r Z, o = some (r, Z) ∧ Same M Z ∧ r.toInt = (zdr f Ls (seed &&& 2147483647) N).2) n ?_ ?_ n 0 FU (0, 0) (by omega) (by unfold FU; omega) ⟨rfl, rfl⟩
  · rintro i ⟨s, c⟩ m hi ⟨rfl, hs⟩
    dsimp only at hs ⊢
    refine Or.inr ?_
    obtain ⟨j1, j2⟩ := i96 i hi
    have c1 := cI V hS i hi
    have bc := t5 i hi
    have cs := csb i (by omega)
    rw [f_270_47, if_pos it8, et2, hMV.2.2.1, if_neg (fun q => by have := (ofNat_le (by omega) (by omega)).mp q; omega), if_pos j1, j2, ofNat_succ]
    refine ⟨(s + V.1 297 (12 * t + i), Int32.ofNat (i + 1)), ⟨rfl, ?_⟩, rfl⟩
    dsimp only
    unfold zs
    rw [a32 (by rw [hs, c1]; omega) (by rw [hs, c1]; omega), hs, c1]
  · rintro ⟨s, c⟩ m ⟨rfl, hs⟩
    dsimp only at hs ⊢
    rw [f_270_47, if_pos it8, et2, hMV.2.2.1, if_pos ((ofNat_le (by omega) (by omega)).mpr (Nat.le_refl _))]
    exact rounds s _ hs (Ac_51 ha _) sI_at
theorem st_draw {U : sU} (h : Inv U) (x seed y : Int32) : Two (f_151 x seed y U) (f_270 x seed y) := by
  have h0 := h
  have e1' : (1 : Int32).toInt = 1 := rfl
  have e200 : (200 : Int32).toInt = 200 := rfl
  obtain ⟨nT, nM, h⟩ := h
  have n8 := h.1.1.2.2.2.1
  have bad : ∀ V, InvN nT nM V → ¬ ((0 ≤ x.toInt ∧ x.toInt < nM) ∧ (1 ≤ y.toInt ∧ y.toInt ≤ 200)) → f_270 x seed y (f_158 5 V).2 = (f_175 (-5) (f_158 5 V).2).bind fun q => some (q.1.toInt64, q.2) := by
    intro V hV q
    unfold f_270
    by_cases hx : 0 ≤ x.toInt ∧ x.toInt < nM
    · rw [if_neg (f180_yes (farJ_n hV).1 n8 hx)]
      by_cases w0 : y < 1
      · rw [if_pos w0]
      · rw [if_neg w0]
        rw [i32_lt, e1'] at w0
        rw [if_neg (by rw [i32_le, e200]; omega)]
    · rw [if_pos (f180_no (farJ_n hV).1 n8 hx)]
  by_cases hy : 1 ≤ y.toInt ∧ y.toInt ≤ 200
  case neg =>
    refine farJ_to h0 (w := 5) (by decide) ?_ (bad U h (by omega))
    unfold f_151
    by_cases y1 : y < 1
    · rw [if_pos y1]
    · rw [if_neg y1]
      rw [i32_lt, e1'] at y1
      rw [if_pos (by rw [i32_lt, e200]; omega)]
  have go : f_151 x seed y U = Option.bind (f_40 218 2 x U) fun q7 => if q7.1 = 0 then some ((f_158 5 q7.2).1.toInt64, (f_158 5 q7.2).2) else Option.bind (f_63 218 seed y q7.2) fun q10 => some (q10.1, q10.2) := by
    unfold f_151
    rw [if_neg (by rw [i32_lt, e1']; omega), if_neg (by rw [i32_lt, e200]; omega)]
  by_cases hx : 0 ≤ x.toInt ∧ x.toInt < nM
  case neg => exact farJ_to h0 (w := 5) (by decide) (by rw [go, open_no h hx, Option.bind_some]; rfl) (bad U h (by omega))
  obtain ⟨t, n, V, ht, o1, o2, hM, ex⟩ := open_mg h hx
  have t8 := hM.2.1.1
  obtain ⟨f1, f2, f3, f4, f5, f6, f7, f8⟩ := opn_facts t8 o2
  obtain ⟨r, Z, r1, r2, r3⟩ := drawn_c nu_Nu (seed := seed) (times := y) o2.2.2.1 (by omega)
  rw [f1, f2, f4, f5, f6, f7] at r3
  refine two_j h0 (v := r.toInt) ?_ ?_
  · rw [go, o1, Option.bind_some]
    dsimp only
    rw [if_neg (by decide), r1]
    exact ⟨r, Z, rfl, o2.1.tr (r2.same (fun x j q => by unfold scr; omega)), rfl⟩
  · intro Y hY
    have hMY := MG_same hM hY
    obtain ⟨V2, a1, a2⟩ := acts_m hMY ex
    obtain ⟨q, Z2, q1, q2, q3⟩ := drawn_m nu_Nu (seed := seed) (times := y) hMY a2 ex (by omega)
    have c12 : ib x 12 := ib_int.mpr (by omega)
    have e298 : Y.1 298 x.toNatClampNeg = Int32.ofNat t := hMY.2.2.1
    unfold f_270
    rw [if_neg (f180_yes (InvN_same hY h).1.2.2 n8 hx), if_neg (by rw [i32_lt, e1']; omega), if_pos (by rw [i32_le, e200]; omega), if_pos c12, a1, Option.bind_some, e298, q1]
    refine ⟨q, Z2, rfl, q2, ?_⟩
    obtain ⟨eX, eC⟩ := same_XC hY (T := 5 + 5 * t) (by omega)
    have eA : mA Y x.toNatClampNeg (5 + 5 * t) n = mA U x.toNatClampNeg (5 + 5 * t) n := by funext w; exact mA_same hY hM.1 (by omega)
    obtain ⟨b1, b2⟩ := mBC_same hY hM.1
    rw [q3, r3, eX, eC, eA, b1, b2, mW_same hY hM.1, hY.lo (by omega : 5 + 5 * t < 210), hY.lo (by omega : 5 + 5 * t < 210)]
