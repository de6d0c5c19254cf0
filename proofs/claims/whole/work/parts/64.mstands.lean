/-! the reference: what stands, the worth of a run -/
def hD1 (U : sU) (t n : Nat) (W : Nat → Nat) (s : Int) (j w : Nat) : Int := zD (U.1 (5 + 5 * t) 6) (hH U (5 + 5 * t) n W (U.1 (5 + 5 * t) 4).toInt) (gX U (5 + 5 * t)) s j w
def hD2 (U : sU) (t n : Nat) (W : Nat → Nat) (j w : Nat) : Int := zD (U.1 (5 + 5 * t) 6) (hH U (5 + 5 * t) n W (U.1 (5 + 5 * t) 8).toInt) (gX U (5 + 5 * t)) (U.1 (5 + 5 * t) 9).toInt j w
def zok (n : Nat) (D : Nat → Nat → Int) (W : Nat → Nat) : Bool := decide (zlie n (zub W n) D W = -1)
theorem zD_bd {q : Int32} {A X : Nat → Int} {s : Int} {j w : Nat} (hA : 0 ≤ A w ∧ A w ≤ 999) (hX : 0 ≤ X j ∧ X j ≤ 999) (hs : -600 ≤ s ∧ s ≤ 600) : 0 ≤ zD q A X s j w ∧ zD q A X s j w ≤ 2560000 := zl_1600 (by omega) (by omega)
theorem say1 {U V : sU} {t n b : Nat} {W : Nat → Nat} (h : MT U t n) (hS : Same U V) (hH' : Hd U V t n W b) (hW : Bw n W b) {x s : Int32} (hx : x.toInt = t) (hs : -600 ≤ s.toInt ∧ s.toInt ≤ 600) {j w : Nat} (hj : j < n) (hw : w < b) : ∃ r, f_208 x (((V.1 308 w).toInt64 - (V.1 296 (12 * t + j)).toInt64) - s.toInt64) V = some r ∧ r.toInt = hD1 U t n W s.toInt j w ∧ 0 ≤ r.toInt ∧ r.toInt ≤ 2560000 := by
  have hMV := MT_same h hS
  have t5 := h.2.1.2.2.2.2.1 j hj
  have t8 := h.1
  have eX : (V.1 296 (12 * t + j)).toInt = gX U (5 + 5 * t) j := by
    rw [(hMV.2.2.2.2.2.2.2.2.2.2 j hj).1]
    unfold gX
    rw [hS.lo (by omega)]
  have eH := hH'.1 w hw
  have bH := hH_bd (U := U) (T := 5 + 5 * t) (n := n) (W := W) (l := (U.1 (5 + 5 * t) 4).toInt) (b := w)
  have d1 : ((V.1 308 w).toInt64 - (V.1 296 (12 * t + j)).toInt64).toInt = hH U (5 + 5 * t) n W (U.1 (5 + 5 * t) 4).toInt w - gX U (5 + 5 * t) j := by rw [s64 (by rw [w64, w64, eH, eX]; omega) (by rw [w64, w64, eH, eX]; omega), w64, w64, eH, eX]
  have d2 : ((V.1 308 w).toInt64 - (V.1 296 (12 * t + j)).toInt64 - s.toInt64).toInt = hH U (5 + 5 * t) n W (U.1 (5 + 5 * t) 4).toInt w - gX U (5 + 5 * t) j - s.toInt := by rw [s64 (by rw [d1, w64]; omega) (by rw [d1, w64]; omega), d1, w64]
  obtain ⟨r, r1, r2⟩ := loses_m hMV hx (d := (V.1 308 w).toInt64 - (V.1 296 (12 * t + j)).toInt64 - s.toInt64) (by rw [d2]; omega) (by rw [d2]; omega)
  have e : r.toInt = hD1 U t n W s.toInt j w := by rw [r2, d2, hS.lo (by omega : 5 + 5 * t < 210)]; rfl
  have bd := zD_bd (q := U.1 (5 + 5 * t) 6) (A := hH U (5 + 5 * t) n W (U.1 (5 + 5 * t) 4).toInt) (X := gX U (5 + 5 * t)) (s := s.toInt) (j := j) (w := w) bH ⟨t5.1, t5.2.1⟩ hs
  exact ⟨r, r1, e, by rw [e]; exact bd.1, by rw [e]; exact bd.2⟩
theorem say2 {U V : sU} {t n b : Nat} {W : Nat → Nat} (h : MT U t n) (hS : Same U V) (hH' : Hd U V t n W b) (h2 : U.1 (5 + 5 * t) 7 = 1) {x : Int32} (hx : x.toInt = t) {j w : Nat} (hj : j < n) (hw : w < b) : ∃ r, f_208 x (((V.1 309 w).toInt64 - (V.1 296 (12 * t + j)).toInt64) - (V.1 295 t).toInt64) V = some r ∧ r.toInt = hD2 U t n W j w ∧ 0 ≤ r.toInt ∧ r.toInt ≤ 2560000 := by
  have hMV := MT_same h hS
  have t5 := h.2.1.2.2.2.2.1 j hj
  have t8 := h.1
  have h9 := h.2.2.2.2.2.2.2.2.2.1.2
  have eX : (V.1 296 (12 * t + j)).toInt = gX U (5 + 5 * t) j := by
    rw [(hMV.2.2.2.2.2.2.2.2.2.2 j hj).1]
    unfold gX
    rw [hS.lo (by omega)]
  have e9 : V.1 295 t = U.1 (5 + 5 * t) 9 := by rw [hMV.2.2.2.2.2.2.2.2.2.1.1, hS.lo (by omega)]
  have eH := hH'.2 h2 w hw
  have bH := hH_bd (U := U) (T := 5 + 5 * t) (n := n) (W := W) (l := (U.1 (5 + 5 * t) 8).toInt) (b := w)
  have d1 : ((V.1 309 w).toInt64 - (V.1 296 (12 * t + j)).toInt64).toInt = hH U (5 + 5 * t) n W (U.1 (5 + 5 * t) 8).toInt w - gX U (5 + 5 * t) j := by rw [s64 (by rw [w64, w64, eH, eX]; omega) (by rw [w64, w64, eH, eX]; omega), w64, w64, eH, eX]
  have d2 : ((V.1 309 w).toInt64 - (V.1 296 (12 * t + j)).toInt64 - (V.1 295 t).toInt64).toInt = hH U (5 + 5 * t) n W (U.1 (5 + 5 * t) 8).toInt w - gX U (5 + 5 * t) j - (U.1 (5 + 5 * t) 9).toInt := by rw [s64 (by rw [d1, w64, e9]; omega) (by rw [d1, w64, e9]; omega), d1, w64, e9]
  obtain ⟨r, r1, r2⟩ := loses_m hMV hx (d := (V.1 309 w).toInt64 - (V.1 296 (12 * t + j)).toInt64 - (V.1 295 t).toInt64) (by rw [d2]; omega) (by rw [d2]; omega)
  have e : r.toInt = hD2 U t n W j w := by rw [r2, d2, hS.lo (by omega : 5 + 5 * t < 210)]; rfl
  have bd := zD_bd (q := U.1 (5 + 5 * t) 6) (A := hH U (5 + 5 * t) n W (U.1 (5 + 5 * t) 8).toInt) (X := gX U (5 + 5 * t)) (s := (U.1 (5 + 5 * t) 9).toInt) (j := j) (w := w) bH ⟨t5.1, t5.2.1⟩ (by omega)
  exact ⟨r, r1, e, by rw [e]; exact bd.1, by rw [e]; exact bd.2⟩
/-- what a truth loses by a block, by who hears: 1, 2, 3 both -/
def hDw (U : sU) (t n : Nat) (W : Nat → Nat) (who : Int32) (s : Int) (j w : Nat) : Int := if who = 1 then hD1 U t n W s j w else if who = 2 then hD2 U t n W j w else hD1 U t n W s j w + hD2 U t n W j w
theorem says_m {U V : sU} {t n b : Nat} {W : Nat → Nat} (h : MT U t n) (hS : Same U V) (hH' : Hd U V t n W b) (hW : Bw n W b) {x s who : Int32} (hx : x.toInt = t) (hs : -600 ≤ s.toInt ∧ s.toInt ≤ 600) (hwho : who = 1 ∨ ((who = 2 ∨ who = 3) ∧ U.1 (5 + 5 * t) 7 = 1)) {j w : Nat} (hj : j < n) (hw : w < b) : ∃ r, f_236 x (Int32.ofNat j) (Int32.ofNat w) who s V = some r ∧ r.toInt = hDw U t n W who s.toInt j w := by
  have t8 := h.1
  have n12 := h.2.1.2.2.1
  have b12 := hW.2.1
  have z0 : (0 : Int64).toInt = 0 := rfl
  have ex : x.toNatClampNeg = t := by rw [clamp_int]; omega
  have i8 : ib x 8 := ib_int.mpr (by omega)
  obtain ⟨m1, m2⟩ := mul12 (s := x) (i := Int32.ofNat j) hx (ofNat_int (by omega)) (by omega) (by omega)
  have i96 : ib (12 * x + Int32.ofNat j) 96 := ib_int.mpr (by omega)
  have iw : ib (Int32.ofNat w) 12 := ib_ofNat (by omega) (by omega)
  have cw : (Int32.ofNat w).toNatClampNeg = w := ofNat_clamp (by omega)
  obtain ⟨r, r1, r2, r3, r4⟩ := say1 h hS hH' hW hx hs hj hw
  unfold f_236 hDw
  rw [if_pos i96, m2]
  rcases hwho with rfl | ⟨rfl | rfl, h2⟩
  · rw [if_pos (by decide), if_pos iw, cw, r1, Option.bind_some]
    unfold f_236_49
    rw [if_neg (by decide), if_pos rfl]
    refine ⟨_, rfl, ?_⟩
    rw [a64 (by rw [z0]; omega) (by rw [z0]; omega), z0, r2, Int.zero_add]
  · obtain ⟨y, y1, y2, y3, y4⟩ := say2 h hS hH' h2 hx hj hw
    rw [if_neg (by decide)]
    unfold f_236_49
    rw [if_pos (by decide), if_pos iw, if_pos i8, cw, ex, y1, Option.bind_some, if_neg (by decide), if_pos rfl]
    refine ⟨_, rfl, ?_⟩
    rw [a64 (by rw [z0]; omega) (by rw [z0]; omega), z0, y2, Int.zero_add]
  · obtain ⟨y, y1, y2, y3, y4⟩ := say2 h hS hH' h2 hx hj hw
    rw [if_pos (by decide), if_pos iw, cw, r1, Option.bind_some]
    unfold f_236_49
    rw [if_pos (by decide), if_pos iw, if_pos i8, cw, ex, y1, Option.bind_some, if_neg (by decide), if_neg (by decide)]
    refine ⟨_, rfl, ?_⟩
    have e : (0 + r).toInt = r.toInt := by rw [a64 (by rw [z0]; omega) (by rw [z0]; omega), z0, Int.zero_add]
    rw [a64 (by rw [e]; omega) (by rw [e]; omega), e, r2, y2]
theorem stands_in {V : sU} {t n b : Nat} {W : Nat → Nat} {D : Nat → Nat → Int} {x s who : Int32} (hB : Bk V n W b) (hW : Bw n W b) (hD : ∀ j w, j < n → w < b → ∃ r, f_236 x (Int32.ofNat j) (Int32.ofNat w) who s V = some r ∧ r.toInt = D j w) {j : Nat} (hj : j < n) (k3 : Int32 → Int32 → Int32 → Int32 → sU → Option Int32) {own : Int64} (ho : own.toInt = D j (W j)) : f_237_35 k3 FU x who s (Int32.ofNat j) own 0 V = match zlw (zub W n) D W j with | none => k3 x who s (Int32.ofNat j + 1) V | some _ => some 0 := by
  have b12 := hW.2.1
  generalize hp : (fun w => (zub W n).testBit w && decide (D j w < D j (W j))) = p
  have hz : zlw (zub W n) D W j = zf p 12 0 := by rw [← hp]; rfl
  rw [hz]
  refine loop_ex (fun m (c : Int32) => f_237_35 k3 m x who s (Int32.ofNat j) own c V) (fun i c => c = Int32.ofNat i ∧ ∀ v, 0 ≤ v → v < i → p v = false) (fun o => o = match zf p 12 0 with | none => k3 x who s (Int32.ofNat j + 1) V | some _ => some 0) b ?_ ?_ b 0 FU 0 (by omega) (by unfold FU; omega) ⟨rfl, fun v _ hv => by omega⟩
  · rintro i c m hi ⟨rfl, hno⟩
    obtain ⟨r, r1, r2⟩ := hD j i hj hi
    have hu : (zub W n).testBit i = true := (Bw_used hW).mpr hi
    rw [f_237_35, hB.2, if_neg (fun q => by have := (ofNat_le (by omega) (by omega)).mp q; omega), r1, Option.bind_some]
    by_cases hlt : D j i < D j (W j)
    · rw [if_neg (by rw [cmp_ge, ho, r2]; omega)]
      have hf : zf p 12 0 = some i := zf_eq (by omega) (by omega) (by rw [← hp]; dsimp only; rw [hu, decide_eq_true hlt]; rfl) hno
      rw [hf]
      exact Or.inl rfl
    · rw [if_pos (by rw [cmp_ge, ho, r2]; omega)]
      refine Or.inr ⟨_, ⟨rfl, fun v _ hv => ?_⟩, by rw [ofNat_succ]⟩
      by_cases e : v = i
      · subst e; rw [← hp]; dsimp only; rw [decide_eq_false hlt, Bool.and_false]
      · exact hno v (by omega) (by omega)
  · rintro c m ⟨rfl, hno⟩
    have hf : zf p 12 0 = none := zf_none.mpr (fun w _ hw => by
      by_cases e : w < b
      · exact hno w (by omega) e
      · rw [← hp]
        dsimp only
        rw [eq_false_of_ne_true (fun q => e ((Bw_used hW).mp q))]
        rfl)
    rw [f_237_35, hB.2, if_pos ((ofNat_le (by omega) (by omega)).mpr (Nat.le_refl _)), hf]
theorem stands_g {V : sU} {t n b : Nat} {W : Nat → Nat} {D : Nat → Nat → Int} {x s who : Int32} (hn : n ≤ 12) (ht : t < 8) (hx : x.toInt = t) (h288 : V.1 288 t = Int32.ofNat n) (hB : Bk V n W b) (hW : Bw n W b) (hD : ∀ j w, j < n → w < b → ∃ r, f_236 x (Int32.ofNat j) (Int32.ofNat w) who s V = some r ∧ r.toInt = D j w) : f_237 x who s V = some (if zok n D W then 1 else 0) := by
  have ex : x.toNatClampNeg = t := by rw [clamp_int]; omega
  have i8 : ib x 8 := ib_int.mpr (by omega)
  have b12 := hW.2.1
  unfold f_237
  refine loop_ex (fun m (c : Int32) => f_237_3 m x who s c V) (fun i c => c = Int32.ofNat i ∧ ∀ j, 0 ≤ j → j < i → (zlw (zub W n) D W j).isSome = false) (fun o => o = some (if zok n D W then 1 else 0)) n ?_ ?_ n 0 FU 0 (by omega) (by unfold FU; omega) ⟨rfl, fun j _ hj => by omega⟩
  · rintro i c m hi ⟨rfl, hno⟩
    have wi := hW.2.2.1 i hi
    obtain ⟨r, r1, r2⟩ := hD i (W i) hi wi
    rw [f_237_3]
    simp only [if_pos i8, ex, h288]
    rw [if_neg (fun q => by have := (ofNat_le (by omega) (by omega)).mp q; omega), if_pos (ib_ofNat (by omega) (by omega)), ofNat_clamp (by omega), hB.1 i hi, r1, Option.bind_some, stands_in (t := t) hB hW hD hi _ r2]
    cases hz : zlw (zub W n) D W i with
    | none =>
      dsimp only
      refine Or.inr ⟨_, ⟨rfl, fun j _ hj => ?_⟩, by rw [ofNat_succ]⟩
      by_cases e : j = i
      · subst e; rw [hz]; rfl
      · exact hno j (by omega) (by omega)
    | some w =>
      dsimp only
      have hf : zf (fun t => (zlw (zub W n) D W t).isSome) n 0 = some i := zf_eq (by omega) (by omega) (by rw [hz]; rfl) hno
      have hl : zlie n (zub W n) D W = 100 * i + w := by
        unfold zlie
        rw [hf]
        dsimp only
        rw [hz]
      have hk : zok n D W = false := decide_eq_false (by rw [hl]; omega)
      rw [hk]
      exact Or.inl rfl
  · rintro c m ⟨rfl, hno⟩
    have hf : zf (fun t => (zlw (zub W n) D W t).isSome) n 0 = none := zf_none.mpr (fun w h1 hw => hno w h1 (by omega))
    have hl : zlie n (zub W n) D W = -1 := by
      unfold zlie
      rw [hf]
    have hk : zok n D W = true := decide_eq_true hl
    rw [f_237_3]
    simp only [if_pos i8, ex, h288]
    rw [if_pos ((ofNat_le (by omega) (by omega)).mpr (Nat.le_refl _)), hk]
    rfl
theorem stands_m {U V : sU} {t n b : Nat} {W : Nat → Nat} (h : MT U t n) (hS : Same U V) (hB : Bk V n W b) (hH' : Hd U V t n W b) (hW : Bw n W b) {x s who : Int32} (hx : x.toInt = t) (hs : -600 ≤ s.toInt ∧ s.toInt ≤ 600) (hwho : who = 1 ∨ ((who = 2 ∨ who = 3) ∧ U.1 (5 + 5 * t) 7 = 1)) : f_237 x who s V = some (if zok n (hDw U t n W who s.toInt) W then 1 else 0) :=
  stands_g h.2.1.2.2.1 h.1 hx (MT_same h hS).2.2.1 hB hW (fun _ _ hj hw => says_m h hS hH' hW hx hs hwho hj hw)
/-- holds() of cuts -/
theorem holds_m {M : sU} {t n c : Nat} (h : MT M t n) {x s who : Int32} (hx : x.toInt = t) (hc : c < 2048) (hs : -600 ≤ s.toInt ∧ s.toInt ≤ 600) (hwho : who = 1 ∨ ((who = 2 ∨ who = 3) ∧ M.1 (5 + 5 * t) 7 = 1)) : ∃ V, f_240 x (Int32.ofNat c) who s M = some (if zok n (hDw M t n (zW c) who s.toInt) (zW c) then 1 else 0, V) ∧ Same M V ∧ Bk V n (zW c) (zW c (n - 1) + 1) ∧ Hd M V t n (zW c) (zW c (n - 1) + 1) := by
  have hT := h.2.1
  have hW := Bw_W (c := c) hT.2.1 hT.2.2.1
  obtain ⟨V1, a1, a2, a3⟩ := parts_m h hx hc
  obtain ⟨V2, b1, b2, b3, b4⟩ := hears_m (MT_same h a2) hx a3 hW
  have hS := a2.tr b2
  have t8 := h.1
  have hd : Hd M V2 t n (zW c) (zW c (n - 1) + 1) := by
    refine ⟨fun w hw => ?_, fun h7 w hw => ?_⟩
    · rw [b4.1 w hw, hH_same a2 (by omega), a2.lo (by omega : 5 + 5 * t < 210)]
    · rw [b4.2 (by rw [a2.lo (by omega : 5 + 5 * t < 210)]; exact h7) w hw, hH_same a2 (by omega), a2.lo (by omega : 5 + 5 * t < 210)]
  unfold f_240
  rw [a1, Option.bind_some, b1, Option.bind_some, stands_m h hS b3 hd hW hx hs hwho]
  exact ⟨V2, rfl, hS, b3, hd⟩
/-- the worth of a run -/
def zrw (q : Int32) (n : Nat) (H X C : Nat → Int) (W : Nat → Nat) (s : Int) : Int := zs (fun t => C t * zD q H X s t (W t)) n
theorem zrw_bd {q : Int32} {n : Nat} {H X C : Nat → Int} {W : Nat → Nat} {s : Int} (hn : n ≤ 12) (hH : ∀ i, i < n → 0 ≤ H (W i) ∧ H (W i) ≤ 999) (hX : ∀ i, i < n → 0 ≤ X i ∧ X i ≤ 999) (hC : ∀ i, i < n → 1 ≤ C i ∧ C i ≤ 99) (hs : -600 ≤ s ∧ s ≤ 600) : 0 ≤ zrw q n H X C W s ∧ zrw q n H X C W s ≤ 12 * (99 * 2560000) := zs_bd hn (fun i hi => by
    have q1 := zD_bd (q := q) (j := i) (hH i hi) (hX i hi) hs
    have q2 := hC i hi
    exact pbn (by omega) (by omega) q1.1 q1.2) (by omega)
theorem runWorth_m {U V : sU} {t n b : Nat} {W : Nat → Nat} (h : MT U t n) (hS : Same U V) (hB : Bk V n W b) (hH' : Hd U V t n W b) (hW : Bw n W b) {x s : Int32} (hx : x.toInt = t) (hs : -600 ≤ s.toInt ∧ s.toInt ≤ 600) : ∃ r, f_241 x s V = some r ∧ r.toInt = zrw (U.1 (5 + 5 * t) 6) n (hH U (5 + 5 * t) n W (U.1 (5 + 5 * t) 4).toInt) (gX U (5 + 5 * t)) (gC U (5 + 5 * t)) W s.toInt := by
  have hMV := MT_same h hS
  have t8 := h.1
  have n12 := h.2.1.2.2.1
  have b12 := hW.2.1
  have t5 := h.2.1.2.2.2.2.1
  have ex : x.toNatClampNeg = t := by rw [clamp_int]; omega
  have i8 : ib x 8 := ib_int.mpr (by omega)
  have i96 : ∀ i, i < n → ib (12 * x + Int32.ofNat i) 96 ∧ (12 * x + Int32.ofNat i).toNatClampNeg = 12 * t + i := by
    intro i hi
    obtain ⟨m1, m2⟩ := mul12 (s := x) (i := Int32.ofNat i) hx (ofNat_int (by omega)) (by omega) (by omega)
    exact ⟨ib_int.mpr (by omega), m2⟩
  have eX : ∀ i, i < n → (V.1 296 (12 * t + i)).toInt = gX U (5 + 5 * t) i := by
    intro i hi
    rw [(hMV.2.2.2.2.2.2.2.2.2.2 i hi).1]
    unfold gX
    rw [hS.lo (by omega)]
  have cI : ∀ i, i < n → (V.1 297 (12 * t + i)).toInt64.toInt = gC U (5 + 5 * t) i := by
    intro i hi
    rw [w64, (hMV.2.2.2.2.2.2.2.2.2.2 i hi).2]
    unfold gC
    rw [hS.lo (by omega)]
  have bH : ∀ w, 0 ≤ hH U (5 + 5 * t) n W (U.1 (5 + 5 * t) 4).toInt w ∧ hH U (5 + 5 * t) n W (U.1 (5 + 5 * t) 4).toInt w ≤ 999 := fun w => hH_bd
  have tb : ∀ i, i < n → 0 ≤ gC U (5 + 5 * t) i * zD (U.1 (5 + 5 * t) 6) (hH U (5 + 5 * t) n W (U.1 (5 + 5 * t) 4).toInt) (gX U (5 + 5 * t)) s.toInt i (W i) ∧ gC U (5 + 5 * t) i * zD (U.1 (5 + 5 * t) 6) (hH U (5 + 5 * t) n W (U.1 (5 + 5 * t) 4).toInt) (gX U (5 + 5 * t)) s.toInt i (W i) ≤ 99 * 2560000 := by
    intro i hi
    have q0 := t5 i hi
    have q1 := zD_bd (q := U.1 (5 + 5 * t) 6) (j := i) (w := W i) (bH (W i)) (⟨q0.1, q0.2.1⟩ : 0 ≤ gX U (5 + 5 * t) i ∧ gX U (5 + 5 * t) i ≤ 999) hs
    exact pbn (by omega) (by omega) q1.1 q1.2
  have sb : ∀ k, k ≤ n → 0 ≤ zs (fun i => gC U (5 + 5 * t) i * zD (U.1 (5 + 5 * t) 6) (hH U (5 + 5 * t) n W (U.1 (5 + 5 * t) 4).toInt) (gX U (5 + 5 * t)) s.toInt i (W i)) k ∧ zs (fun i => gC U (5 + 5 * t) i * zD (U.1 (5 + 5 * t) 6) (hH U (5 + 5 * t) n W (U.1 (5 + 5 * t) 4).toInt) (gX U (5 + 5 * t)) s.toInt i (W i)) k ≤ 12 * (99 * 2560000) := fun k hk => zs_bd (by omega) (fun i hi => tb i (by omega)) (by omega)
  unfold f_241
  refine loop_ex (fun m (s' : Int64 × Int32) => f_241_5 m x s s'.1 s'.2 V) (fun i s' => s'.2 = Int32.ofNat i ∧ s'.1.toInt = zs (fun i => gC U (5 + 5 * t) i * zD (U.1 (5 + 5 * t) 6) (hH U (5 + 5 * t) n W (U.1 (5 + 5 * t) 4).toInt) (gX U (5 + 5 * t)) s.toInt i (W i)) i) (fun o => ∃ r, o = some r ∧ r.toInt = zrw (U.1 (5 + 5 * t) 6) n (hH U (5 + 5 * t) n W (U.1 (5 + 5 * t) 4).toInt) (gX U (5 + 5 * t)) (gC U (5 + 5 * t)) W s.toInt) n ?_ ?_ n 0 FU (0, 0) (by omega) (by unfold FU; omega) ⟨rfl, rfl⟩
  · rintro i ⟨al, c⟩ m hi ⟨rfl, hal⟩
    dsimp only at hal ⊢
    refine Or.inr ?_
    obtain ⟨j1, j2⟩ := i96 i hi
    have wi := hW.2.2.1 i hi
    have bx := t5 i hi
    have eH := hH'.1 (W i) wi
    have bh := bH (W i)
    have ei := eX i hi
    have d1 : (V.1 308 (W i) - V.1 296 (12 * t + i)).toInt = hH U (5 + 5 * t) n W (U.1 (5 + 5 * t) 4).toInt (W i) - gX U (5 + 5 * t) i := by rw [s32 (by rw [eH, ei]; omega) (by rw [eH, ei]; omega), eH, ei]
    have d2 : (V.1 308 (W i) - V.1 296 (12 * t + i) - s).toInt64.toInt = hH U (5 + 5 * t) n W (U.1 (5 + 5 * t) 4).toInt (W i) - gX U (5 + 5 * t) i - s.toInt := by rw [w64, s32 (by rw [d1]; omega) (by rw [d1]; omega), d1]
    obtain ⟨r, r1, r2⟩ := loses_m hMV hx (d := (V.1 308 (W i) - V.1 296 (12 * t + i) - s).toInt64) (by rw [d2]; omega) (by rw [d2]; omega)
    have r3 : r.toInt = zD (U.1 (5 + 5 * t) 6) (hH U (5 + 5 * t) n W (U.1 (5 + 5 * t) 4).toInt) (gX U (5 + 5 * t)) s.toInt i (W i) := by rw [r2, d2, hS.lo (by omega : 5 + 5 * t < 210)]; rfl
    have tk := tb i hi
    have sk := sb i (by omega)
    rw [f_241_5]
    simp only [if_pos i8, ex, hMV.2.2.1, if_pos j1, j2, if_pos (ib_ofNat (n := 12) (by omega) (show i < 12 by omega)), ofNat_clamp (show i < 2147483648 by omega), hB.1 i hi, if_pos (ib_ofNat (n := 12) (by omega) (show W i < 12 by omega)), ofNat_clamp (show W i < 2147483648 by omega), r1, Option.bind_some]
    rw [if_neg (fun q => by have := (ofNat_le (by omega) (by omega)).mp q; omega), ofNat_succ]
    have m1 : ((V.1 297 (12 * t + i)).toInt64 * r).toInt = gC U (5 + 5 * t) i * zD (U.1 (5 + 5 * t) 6) (hH U (5 + 5 * t) n W (U.1 (5 + 5 * t) 4).toInt) (gX U (5 + 5 * t)) s.toInt i (W i) := by rw [m64 (by rw [cI i hi, r3]; omega) (by rw [cI i hi, r3]; omega), cI i hi, r3]
    refine ⟨(al + (V.1 297 (12 * t + i)).toInt64 * r, Int32.ofNat (i + 1)), ⟨rfl, ?_⟩, rfl⟩
    dsimp only
    show _ = zs _ i + _
    rw [a64 (by rw [hal, m1]; omega) (by rw [hal, m1]; omega), hal, m1]
  · rintro ⟨al, c⟩ m ⟨rfl, hal⟩
    dsimp only at hal ⊢
    rw [f_241_5]
    simp only [if_pos i8, ex, hMV.2.2.1]
    rw [if_pos ((ofNat_le (by omega) (by omega)).mpr (Nat.le_refl _))]
    exact ⟨al, rfl, hal⟩
