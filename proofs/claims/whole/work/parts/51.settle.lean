/-! the act of each used word -/
theorem zb_bd {bl : Int32} {c u x y : Int} (hc : 0 ≤ c ∧ c ≤ 100) (hu : 0 ≤ u ∧ u ≤ 12) (hx : -4000000 ≤ x ∧ x ≤ 4000000) (hy : -4000000 ≤ y ∧ y ≤ 4000000) : -10000000000 ≤ zb bl c u x y ∧ zb bl c u x y ≤ 10000000000 := by
  have k1 := pbn hc.1 hc.2 hu.1 hu.2
  have k2 := pb (a := c * u) (b := x) (A := 1200) (B := 4000000) (by omega) (by omega) (by omega) (by omega)
  have k3 := pb (a := 100 - c) (b := y) (A := 100) (B := 4000000) (by omega) (by omega) (by omega) (by omega)
  unfold zb
  split <;> omega
theorem zb_nn {bl : Int32} {c u x y : Int} (hc : 0 ≤ c ∧ c ≤ 100) (hu : 0 ≤ u) (hx : 0 ≤ x) (hy : 0 ≤ y) : 0 ≤ zb bl c u x y := by
  have k1 := Int.mul_nonneg (Int.mul_nonneg hc.1 hu) hx
  have k2 := Int.mul_nonneg (by omega : 0 ≤ 100 - c) hy
  unfold zb
  split <;> omega
theorem f48_eq {V : sU} {a : Nat} {x y : Int32} (hc : 0 ≤ (V.1 a 13).toInt ∧ (V.1 a 13).toInt ≤ 100) (hu : 0 ≤ (V.1 a 10).toInt ∧ (V.1 a 10).toInt ≤ 12) (hx : -4000000 ≤ x.toInt ∧ x.toInt ≤ 4000000) (hy : -4000000 ≤ y.toInt ∧ y.toInt ≤ 4000000) : (f_48 a x y V).toInt = zb (V.1 a 11) (V.1 a 13).toInt (V.1 a 10).toInt x.toInt y.toInt := by
  have e100 : (100 : Int64).toInt = 100 := rfl
  have k1 := pbn hc.1 hc.2 hu.1 hu.2
  have k2 := pb (a := (V.1 a 13).toInt * (V.1 a 10).toInt) (b := x.toInt) (A := 1200) (B := 4000000) (by omega) (by omega) (by omega) (by omega)
  have k3 := pb (a := 100 - (V.1 a 13).toInt) (b := y.toInt) (A := 100) (B := 4000000) (by omega) (by omega) (by omega) (by omega)
  have m1 : ((V.1 a 13).toInt64 * (V.1 a 10).toInt64).toInt = (V.1 a 13).toInt * (V.1 a 10).toInt := by rw [m64 (by rw [w64, w64]; omega) (by rw [w64, w64]; omega), w64, w64]
  have m2 : ((V.1 a 13).toInt64 * (V.1 a 10).toInt64 * x.toInt64).toInt = (V.1 a 13).toInt * (V.1 a 10).toInt * x.toInt := by rw [m64 (by rw [m1, w64]; omega) (by rw [m1, w64]; omega), m1, w64]
  have m3 : (100 - (V.1 a 13).toInt64).toInt = 100 - (V.1 a 13).toInt := by rw [s64 (by rw [w64, e100]; omega) (by rw [w64, e100]; omega), e100, w64]
  have m4 : ((100 - (V.1 a 13).toInt64) * y.toInt64).toInt = (100 - (V.1 a 13).toInt) * y.toInt := by rw [m64 (by rw [m3, w64]; omega) (by rw [m3, w64]; omega), m3, w64]
  unfold f_48 zb
  by_cases h : V.1 a 11 = 0
  · rw [if_pos h, if_pos h, w64]
  · rw [if_neg h, if_neg h, a64 (by rw [m2, m4]; omega) (by rw [m2, m4]; omega), m2, m4]
theorem Rd_un {V : sU} {a T n : Nat} {W : Nat → Nat} (h : Rd V a T n W) : 0 ≤ (V.1 a 10).toInt ∧ (V.1 a 10).toInt ≤ 12 ∧ (V.1 a 10).toInt = zpc (zub W n) := by
  have e := h.2.2.2.1.2.2.2
  have := zpc_le (zub W n)
  rw [e, ofNat_int (by omega)]
  omega
theorem med_ok {V : sU} {a T n w : Nat} {W : Nat → Nat} (h : Rd V a T n W) {t : Int64} (ht : t.toInt = zs (zwt (V.1 a 11) (V.1 a 13).toInt (V.1 a 10).toInt (gC V T) W w) n) (hw : w < 12) : ∃ r, f_51 a (Int32.ofNat w) t V = some r ∧ r.toInt = match zf (fun k => decide (zs (zwt (V.1 a 11) (V.1 a 13).toInt (V.1 a 10).toInt (gC V T) W w) n ≤ 2 * zs (zwt (V.1 a 11) (V.1 a 13).toInt (V.1 a 10).toInt (gC V T) W w) (k + 1))) n 0 with | some k => zc (gY V a T k) | none => 0 := by
  have h0 := h
  obtain ⟨hu0, hu12, _⟩ := Rd_un h
  obtain ⟨ha, htk, ⟨t1, t2, t3, t4, t5, t6, t7, t8, t9, t10, t11⟩, hW, hl, hwi, hbl, hcl⟩ := h
  obtain ⟨l1, l2, l3, l4⟩ := ln_rd ha
  have e2 : (2 : Int64).toInt = 2 := rfl
  have f0 : (0 : Int32).toInt = 0 := rfl
  generalize hp : (fun k => decide (zs (zwt (V.1 a 11) (V.1 a 13).toInt (V.1 a 10).toInt (gC V T) W w) n ≤ 2 * zs (zwt (V.1 a 11) (V.1 a 13).toInt (V.1 a 10).toInt (gC V T) W w) (k + 1))) = p
  have hpk : ∀ k, p k = decide (t.toInt ≤ 2 * zs (zwt (V.1 a 11) (V.1 a 13).toInt (V.1 a 10).toInt (gC V T) W w) (k + 1)) := by
    intro k; rw [← hp, ht]
  unfold f_51
  refine loop_ex (fun m (s : Int32 × Int32 × Int32) => f_51_9 m a (Int32.ofNat w) t s.1 s.2.1 s.2.2 V) (fun k s => s.2.2 = Int32.ofNat k ∧ s.1.toInt = zs (zow (gC V T) W w) k ∧ s.2.1.toInt = zs (gC V T) k ∧ ∀ j, 0 ≤ j → j < k → p j = false) (fun b => ∃ r, b = some r ∧ r.toInt = match zf p n 0 with | some k => zc (gY V a T k) | none => 0) n ?_ ?_ n 0 FU (0, 0, 0) (by omega) (by unfold FU; omega) ?_
  · rintro k ⟨o, al, c⟩ m hk ⟨rfl, ho, hal, hno⟩
    dsimp only at ho hal hno ⊢
    have sb1 : 0 ≤ zs (zow (gC V T) W w) k ∧ zs (zow (gC V T) W w) k ≤ 12 * 99 := zs_bd (by omega) (fun i hi => zow_bd (t5 i (by omega)).2.2) (by omega)
    have sb3 : 0 ≤ zs (gC V T) k ∧ zs (gC V T) k ≤ 12 * 99 := zs_bd (by omega) (fun i hi => by have := t5 i (by omega); omega) (by omega)
    have bC := (t5 k hk).2.2
    have g1 : iget (a + 1) (Int32.ofNat k) V = Int32.ofNat (W k) := by rw [iget_k l1 (by omega)]; exact hW.2.1 k hk
    have g3 : iget (T + 3) (Int32.ofNat k) V = V.1 (T + 4) k := iget_k t10 (by omega)
    have gx : iget (T + 1) (Int32.ofNat k) V = V.1 (T + 2) k := iget_k t9 (by omega)
    have cI : (V.1 (T + 4) k).toInt = gC V T k := rfl
    have wk := hW.1 k hk
    have alI : (al + V.1 (T + 4) k).toInt = zs (gC V T) (k + 1) := by
      show _ = zs (gC V T) k + gC V T k
      rw [a32 (by rw [hal, cI]; omega) (by rw [hal, cI]; omega), hal, cI]
    have yI : (V.1 (T + 2) k + V.1 a 7).toInt = gY V a T k := by
      have e : (V.1 (T + 2) k).toInt + (V.1 a 7).toInt = gY V a T k := rfl
      have b := gY_bd h0 hk
      rw [a32 (by omega) (by omega), e]
    have body : ∀ z : Int32, (o + z).toInt = zs (zow (gC V T) W w) (k + 1) → (∃ r, f_51_56 (fun a v1 v2 v4 v5 v6 U => f_51_9 m a v1 v2 v4 v5 v6 U) a (Int32.ofNat w) t al (Int32.ofNat k) (V.1 (T + 4) k) o z V = some r ∧ r.toInt = match zf p n 0 with | some k => zc (gY V a T k) | none => 0) ∨ ∃ s' : Int32 × Int32 × Int32, (s'.2.2 = Int32.ofNat (k + 1) ∧ s'.1.toInt = zs (zow (gC V T) W w) (k + 1) ∧ s'.2.1.toInt = zs (gC V T) (k + 1) ∧ ∀ j, 0 ≤ j → j < k + 1 → p j = false) ∧ f_51_56 (fun a v1 v2 v4 v5 v6 U => f_51_9 m a v1 v2 v4 v5 v6 U) a (Int32.ofNat w) t al (Int32.ofNat k) (V.1 (T + 4) k) o z V = f_51_9 m a (Int32.ofNat w) t s'.1 s'.2.1 s'.2.2 V := by
      intro z hz
      have sb1' : 0 ≤ zs (zow (gC V T) W w) (k + 1) ∧ zs (zow (gC V T) W w) (k + 1) ≤ 12 * 99 := zs_bd (by omega) (fun i hi => zow_bd (t5 i (by omega)).2.2) (by omega)
      have sb3' : 0 ≤ zs (gC V T) (k + 1) ∧ zs (gC V T) (k + 1) ≤ 12 * 99 := zs_bd (by omega) (fun i hi => by have := t5 i (by omega); omega) (by omega)
      have q := f48_eq (V := V) (a := a) (x := o + z) (y := al + V.1 (T + 4) k) hcl ⟨hu0, hu12⟩ (by rw [hz]; omega) (by rw [alI]; omega)
      rw [hz, alI, ← zs_zb] at q
      have qb := zb_bd (bl := V.1 a 11) hcl ⟨hu0, hu12⟩ (x := zs (zow (gC V T) W w) (k + 1)) (y := zs (gC V T) (k + 1)) (by omega) (by omega)
      rw [← zs_zb] at qb
      have q2 : (2 * f_48 a (o + z) (al + V.1 (T + 4) k) V).toInt = 2 * zs (zwt (V.1 a 11) (V.1 a 13).toInt (V.1 a 10).toInt (gC V T) W w) (k + 1) := by
        have qb : -10000000000 ≤ zs (zwt (V.1 a 11) (V.1 a 13).toInt (V.1 a 10).toInt (gC V T) W w) (k + 1) ∧ zs (zwt (V.1 a 11) (V.1 a 13).toInt (V.1 a 10).toInt (gC V T) W w) (k + 1) ≤ 10000000000 := qb
        have q : (f_48 a (o + z) (al + V.1 (T + 4) k) V).toInt = zs (zwt (V.1 a 11) (V.1 a 13).toInt (V.1 a 10).toInt (gC V T) W w) (k + 1) := q
        rw [m64 (by rw [e2, q]; omega) (by rw [e2, q]; omega), e2, q]
      unfold f_51_56
      by_cases hlt : t.toInt ≤ 2 * zs (zwt (V.1 a 11) (V.1 a 13).toInt (V.1 a 10).toInt (gC V T) W w) (k + 1)
      · rw [if_neg (by rw [cmp_lt, q2]; omega)]
        refine Or.inl ⟨_, rfl, ?_⟩
        have hf : zf p n 0 = some k := zf_eq (by omega) (by omega) (by rw [hpk]; exact decide_eq_true hlt) hno
        rw [hf, htk, gx, within_int, w64, yI]
      · rw [if_pos (by rw [cmp_lt, q2]; omega)]
        refine Or.inr ⟨(o + z, al + V.1 (T + 4) k, Int32.ofNat (k + 1)), ⟨rfl, hz, alI, fun j _ hj => ?_⟩, ?_⟩
        · by_cases e : j = k
          · subst e; rw [hpk]; exact decide_eq_false hlt
          · exact hno j (by omega) (by omega)
        · dsimp only
          rw [ofNat_succ]
    rw [f_51_9, htk, t1, if_neg (fun q => by have := (ofNat_le (by omega) (by omega)).mp q; omega), g1, g3]
    by_cases e : W k = w
    · rw [if_pos (by rw [e])]
      refine body _ ?_
      show _ = zs (zow (gC V T) W w) k + zow (gC V T) W w k
      rw [a32 (by rw [ho, cI]; omega) (by rw [ho, cI]; omega), ho, cI]
      unfold zow
      rw [if_pos e]
    · rw [if_neg (fun q => e (by have := congrArg Int32.toNatClampNeg q; rwa [ofNat_clamp (by omega), ofNat_clamp (by omega)] at this))]
      refine body _ ?_
      show _ = zs (zow (gC V T) W w) k + zow (gC V T) W w k
      rw [a32 (by rw [ho, f0]; omega) (by rw [ho, f0]; omega), ho, f0]
      unfold zow
      rw [if_neg e]
  · rintro ⟨o, al, c⟩ m ⟨rfl, ho, hal, hno⟩
    dsimp only at ho hal hno ⊢
    rw [f_51_9, htk, t1, if_pos ((ofNat_le (by omega) (by omega)).mpr (Nat.le_refl _))]
    refine ⟨0, rfl, ?_⟩
    have hf : zf p n 0 = none := zf_none.mpr (fun i h1 h2 => hno i h1 (by omega))
    rw [hf]
    rfl
  · exact ⟨rfl, rfl, rfl, fun j _ hj => by omega⟩
theorem best_ok {V : sU} {a T n w : Nat} {W : Nat → Nat} (h : Rd V a T n W) (hg : Gd V a T n W n) (hw : w < 12) : ∃ r, f_49 a (Int32.ofNat w) V = some r ∧ r.toInt = zA V a T n W w := by
  have h0 := h
  obtain ⟨hu0, hu12, _⟩ := Rd_un h
  obtain ⟨ha, htk, ⟨t1, t2, t3, t4, t5, t6, t7, t8, t9, t10, t11⟩, hW, hl, hwi, hbl, hcl⟩ := h
  obtain ⟨l1, l2, l3, l4⟩ := ln_rd ha
  obtain ⟨g1, g2, g3⟩ := hg
  obtain ⟨g4, g5⟩ := g1 w hw
  have sb1 : 0 ≤ zs (zow (gC V T) W w) n ∧ zs (zow (gC V T) W w) n ≤ 12 * 99 := zs_bd (by omega) (fun i hi => zow_bd (t5 i (by omega)).2.2) (by omega)
  have sb2 : -(12 * (99 * 1499)) ≤ zs (fun i => zow (gC V T) W w i * gY V a T i) n ∧ zs (fun i => zow (gC V T) W w i * gY V a T i) n ≤ 12 * (99 * 1499) := zs_bs (by omega) (fun i hi => by
    have q1 := zow_bd (W := W) (w := w) (t5 i (by omega)).2.2
    have q2 := gY_bd h0 (by omega : i < n)
    exact pb (by omega) (by omega) (by omega) (by omega)) (by omega)
  have sb3 : 0 ≤ zs (gC V T) n ∧ zs (gC V T) n ≤ 12 * 99 := zs_bd (by omega) (fun i hi => by have := t5 i (by omega); omega) (by omega)
  have sb4 : -(12 * (99 * 1499)) ≤ zs (fun i => gC V T i * gY V a T i) n ∧ zs (fun i => gC V T i * gY V a T i) n ≤ 12 * (99 * 1499) := zs_bs (by omega) (fun i hi => by
    have q1 := t5 i (by omega)
    have q2 := gY_bd h0 (by omega : i < n)
    exact pb (by omega) (by omega) (by omega) (by omega)) (by omega)
  have i5 : iget (a + 5) (Int32.ofNat w) V = V.1 (a + 6) w := iget_k l3 hw
  have i7 : iget (a + 7) (Int32.ofNat w) V = V.1 (a + 8) w := iget_k l4 hw
  have q1 := f48_eq (V := V) (a := a) (x := V.1 (a + 6) w) (y := V.1 a 4) hcl ⟨hu0, hu12⟩ (by rw [g4]; omega) (by rw [g2]; omega)
  have q2 := f48_eq (V := V) (a := a) (x := V.1 (a + 8) w) (y := V.1 a 5) hcl ⟨hu0, hu12⟩ (by rw [g5]; omega) (by rw [g3]; omega)
  have b1 := zb_bd (bl := V.1 a 11) hcl ⟨hu0, hu12⟩ (x := zs (zow (gC V T) W w) n) (y := zs (gC V T) n) (by omega) (by omega)
  have b0 := zb_nn (bl := V.1 a 11) hcl hu0 (x := zs (zow (gC V T) W w) n) (y := zs (gC V T) n) (by omega) (by omega)
  have b2 := zb_bd (bl := V.1 a 11) hcl ⟨hu0, hu12⟩ (x := zs (fun i => zow (gC V T) W w i * gY V a T i) n) (y := zs (fun i => gC V T i * gY V a T i) n) (by omega) (by omega)
  rw [g4, g2] at q1
  rw [g5, g3] at q2
  have e1 : zs (zwt (V.1 a 11) (V.1 a 13).toInt (V.1 a 10).toInt (gC V T) W w) n = zb (V.1 a 11) (V.1 a 13).toInt (V.1 a 10).toInt (zs (zow (gC V T) W w) n) (zs (gC V T) n) := zs_zb _ _ _ _ _ _
  have e2 : zs (fun i => zwt (V.1 a 11) (V.1 a 13).toInt (V.1 a 10).toInt (gC V T) W w i * gY V a T i) n = zb (V.1 a 11) (V.1 a 13).toInt (V.1 a 10).toInt (zs (fun i => zow (gC V T) W w i * gY V a T i) n) (zs (fun i => gC V T i * gY V a T i) n) := by
    rw [← zs_zb]
    exact zs_congr (fun i _ => zb_mul _ _ _ _ _ _)
  unfold f_49 zA zlst
  rw [htk, i5, i7]
  by_cases hq : V.1 T 6 = 0
  · rw [if_pos hq, if_pos hq]
    obtain ⟨r, r1, r2⟩ := f50_eq (w := f_48 a (V.1 (a + 6) w) (V.1 a 4) V) (s := f_48 a (V.1 (a + 8) w) (V.1 a 5) V) (U := V) (by rw [q1]; exact b0) (by rw [q1]; omega) (by rw [q2]; omega) (by rw [q2]; omega)
    rw [r1]
    refine ⟨r, rfl, ?_⟩
    rw [r2, q1, q2, e1, e2]
  · rw [if_neg hq, if_neg hq]
    obtain ⟨r, r1, r2⟩ := med_ok h0 (t := f_48 a (V.1 (a + 6) w) (V.1 a 4) V) (by rw [q1, e1]) hw
    rw [r1]
    exact ⟨r, rfl, r2⟩
def Ps (a x j : Nat) : Prop := x = a + 4 ∨ Pg a x j
theorem Rd_fr {P : Nat → Nat → Prop} {V Z : sU} {a T n : Nat} {W : Nat → Nat} (h : Rd V a T n W) (hF : Fr P V Z) (hP : ∀ x j, P x j → 210 ≤ x ∧ x ≠ a + 2 ∧ (x = a → j ≠ 7 ∧ j ≠ 8 ∧ j ≠ 9 ∧ j ≠ 10 ∧ j ≠ 11 ∧ j ≠ 13)) : Rd Z a T n W ∧ (∀ w, zA Z a T n W w = zA V a T n W w) ∧ gX Z T = gX V T ∧ gC Z T = gC V T ∧ (∀ j, Z.1 T j = V.1 T j) := by
  obtain ⟨ha, htk, hT, ⟨w1, w2, w3, w4⟩, hl, hwi, hbl, hcl⟩ := h
  have lo : ∀ x j, x < 210 → Z.1 x j = V.1 x j := fun x j hx => hF.1 x j (fun q => by have := hP x j q; omega)
  have ea : ∀ j, (j = 7 ∨ j = 8 ∨ j = 9 ∨ j = 10 ∨ j = 11 ∨ j = 13) → Z.1 a j = V.1 a j := fun j hj => hF.1 a j (fun q => by have := (hP a j q).2.2 rfl; omega)
  have ew : ∀ i, Z.1 (a + 2) i = V.1 (a + 2) i := fun i => hF.1 _ _ (fun q => by have := hP _ _ q; omega)
  have t8 := hT.2.2.2.2.2.2.2.1
  have eX : gX Z T = gX V T := by funext i; unfold gX; rw [lo _ _ (by omega)]
  have eC : gC Z T = gC V T := by funext i; unfold gC; rw [lo _ _ (by omega)]
  have eY : gY Z a T = gY V a T := by funext i; unfold gY; rw [eX, ea 7 (by omega)]
  refine ⟨⟨ha, (Fr_tk hF a).trans htk, Tk_same hT lo, ⟨w1, fun i hi => (ew i).trans (w2 i hi), (ea 9 (by omega)).trans w3, (ea 10 (by omega)).trans w4⟩, ?_, ?_, ?_, ?_⟩, ?_, eX, eC, fun j => lo _ _ (by omega)⟩
  · rw [ea 7 (by omega)]; exact hl
  · rw [ea 8 (by omega)]; exact hwi
  · rw [ea 11 (by omega)]; exact hbl
  · rw [ea 13 (by omega)]; exact hcl
  · intro w
    unfold zA
    rw [eC, eY, lo T 6 (by omega), ea 11 (by omega), ea 13 (by omega), ea 10 (by omega)]
theorem Gd_fr {P : Nat → Nat → Prop} {V Z : sU} {a T n : Nat} {W : Nat → Nat} (h : Rd V a T n W) (hg : Gd V a T n W n) (hF : Fr P V Z) (hP : ∀ x j, P x j → x = a + 4) : Gd Z a T n W n := by
  have t8 := h.2.2.1.2.2.2.2.2.2.2.1
  have ha2 : 210 ≤ a := by rcases h.1 with rfl | rfl | rfl <;> omega
  have e : ∀ x j, x ≠ a + 4 → Z.1 x j = V.1 x j := fun x j hx => hF.1 x j (fun q => hx (hP x j q))
  have eX : gX Z T = gX V T := by funext i; unfold gX; rw [e _ _ (by omega)]
  have eC : gC Z T = gC V T := by funext i; unfold gC; rw [e _ _ (by omega)]
  have eY : gY Z a T = gY V a T := by funext i; unfold gY; rw [eX, e a 7 (by omega)]
  unfold Gd
  rw [eC, eY, e a 4 (by omega), e a 5 (by omega)]
  refine ⟨fun w hw => ?_, hg.2⟩
  rw [e (a + 6) w (by omega), e (a + 8) w (by omega)]
  exact hg.1 w hw
/-- settle(): each used word has its act -/
theorem settle_ok {V : sU} {a T n : Nat} {W : Nat → Nat} (h : Rd V a T n W) : ∃ V2, f_41 a V = some V2 ∧ Fr (Ps a) V V2 ∧ (∀ w, w < 12 → (zub W n).testBit w = true → (V2.1 (a + 4) w).toInt = zA V a T n W w) ∧ Gd V2 a T n W n := by
  obtain ⟨V1, h1, hF1, hG1⟩ := gather_ok h
  have ha2 : 210 ≤ a := by rcases h.1 with rfl | rfl | rfl <;> omega
  obtain ⟨hR1, hA1, _⟩ := Rd_fr h hF1 (by intro x j q; unfold Pg at q; omega)
  have hq := zub_lt (W := W) (n := n) (fun i hi => h.2.2.2.1.1 i hi)
  have e12 : (12 : Int32).toInt = 12 := rfl
  obtain ⟨l1, l2, l3, l4⟩ := ln_rd h.1
  unfold f_41
  rw [h1, Option.bind_some]
  have fin : ∀ Z k, Fr (fun x _ => x = a + 4) V1 Z → (∀ w, w < k → (zub W n).testBit w = true → (Z.1 (a + 4) w).toInt = zA V a T n W w) → (∀ w, k ≤ w → w < 12 → (zub W n).testBit w = false) → Fr (Ps a) V Z ∧ (∀ w, w < 12 → (zub W n).testBit w = true → (Z.1 (a + 4) w).toInt = zA V a T n W w) ∧ Gd Z a T n W n := by
    intro Z k hF hw hno
    refine ⟨Fr.tr (hF1.mono (fun x j q => Or.inr q)) (hF.mono (fun x j q => Or.inl q)), fun w hw12 ht => ?_, Gd_fr hR1 hG1 hF (fun x j q => q)⟩
    by_cases e : w < k
    · exact hw w e ht
    · rw [hno w (by omega) hw12] at ht; cases ht
  refine loop_ex (fun m (s : Int32 × sU) => f_41_6 m a s.1 s.2) (fun k s => s.1 = Int32.ofNat k ∧ Fr (fun x _ => x = a + 4) V1 s.2 ∧ ∀ w, w < k → (zub W n).testBit w = true → (s.2.1 (a + 4) w).toInt = zA V a T n W w) (fun b => ∃ V2, b = some V2 ∧ Fr (Ps a) V V2 ∧ (∀ w, w < 12 → (zub W n).testBit w = true → (V2.1 (a + 4) w).toInt = zA V a T n W w) ∧ Gd V2 a T n W n) 12 ?_ ?_ 12 0 FU (0, V1) (by omega) (by unfold FU; omega) ⟨rfl, Fr.rf _ _, fun w hw => by omega⟩
  · rintro k ⟨c, Z⟩ m hk ⟨rfl, hF, hw⟩
    dsimp only at hF hw ⊢
    obtain ⟨hR, hA, _⟩ := Rd_fr hR1 hF (by intro x j q; have q : x = a + 4 := q; omega)
    have hG := Gd_fr hR1 hG1 hF (fun x j q => q)
    have r9 : Z.1 a 9 = Int32.ofNat (zub W n) := hR.2.2.2.1.2.2.1
    rw [f_41_6, if_neg (by rw [i32_le, e12, ofNat_int (by omega)]; omega), r9]
    by_cases hs : (zub W n) < 2 ^ k
    · rw [if_pos ((bit_at hq hk).2.1.mpr hs)]
      exact Or.inl ⟨Z, rfl, fin Z k hF hw (fun w h1 _ => Nat.testBit_lt_two_pow (Nat.lt_of_lt_of_le hs (Nat.pow_le_pow_right (by decide) h1)))⟩
    · rw [if_neg (fun q => hs ((bit_at hq hk).2.1.mp q)), f43_eq r9 hq hk]
      by_cases ht : (zub W n).testBit k = true
      · rw [if_pos ht, if_neg (by decide)]
        obtain ⟨r, r1, r2⟩ := best_ok hR hG hk
        have pA : iput (a + 3) (Int32.ofNat k) r Z = sI Z (a + 4) k r := iput_k l2 hk
        rw [r1]
        refine Or.inr ⟨(Int32.ofNat (k + 1), sI Z (a + 4) k r), ⟨rfl, Fr.sI hF _ rfl, fun w hwk htw => ?_⟩, ?_⟩
        · dsimp only
          by_cases e : w = k
          · subst e; rw [sI_at, r2, hA, hA1]
          · rw [sI_nj e]; exact hw w (by omega) htw
        · dsimp only [Option.bind_some]
          rw [pA, ofNat_succ]
      · rw [if_neg ht, if_pos rfl]
        refine Or.inr ⟨(Int32.ofNat (k + 1), Z), ⟨rfl, hF, fun w hwk htw => ?_⟩, ?_⟩
        · by_cases e : w = k
          · subst e; exact absurd htw ht
          · exact hw w (by omega) htw
        · dsimp only
          rw [ofNat_succ]
  · rintro ⟨c, Z⟩ m ⟨rfl, hF, hw⟩
    dsimp only at hF hw ⊢
    rw [f_41_6, if_pos (by rw [i32_le, e12, ofNat_int (by omega)]; omega)]
    exact ⟨Z, rfl, fin Z 12 hF hw (fun w h1 h2 => by omega)⟩
