/-! the first truth that would rather say another word; what who hears would rather do -/
def zlw (u : Nat) (D : Nat → Nat → Int) (W : Nat → Nat) (t : Nat) : Option Nat := zf (fun w => u.testBit w && decide (D t w < D t (W t))) 12 0
def zlie (n u : Nat) (D : Nat → Nat → Int) (W : Nat → Nat) : Int := match zf (fun t => (zlw u D W t).isSome) n 0 with
  | none => -1
  | some t => match zlw u D W t with
    | none => -1
    | some w => 100 * t + w
theorem zlw_congr {u t : Nat} {D E : Nat → Nat → Int} {W : Nat → Nat} (h : ∀ w, w < 12 → u.testBit w = true → (D t w < D t (W t) ↔ E t w < E t (W t))) : zlw u D W t = zlw u E W t := by
  unfold zlw
  refine zf_congr (fun w _ hw => ?_)
  cases hu : u.testBit w with
  | false => rfl
  | true => rw [decide_eq_decide.mpr (h w (by omega) hu)]
theorem zlie_congr {n u : Nat} {D E : Nat → Nat → Int} {W : Nat → Nat} (h : ∀ t w, t < n → w < 12 → u.testBit w = true → (D t w < D t (W t) ↔ E t w < E t (W t))) : zlie n u D W = zlie n u E W := by
  have k : ∀ t, t < n → zlw u D W t = zlw u E W t := fun t ht => zlw_congr (fun w hw hu => h t w ht hw hu)
  have e : zf (fun t => (zlw u D W t).isSome) n 0 = zf (fun t => (zlw u E W t).isSome) n 0 := zf_congr (fun t _ ht => by rw [k t (by omega)])
  unfold zlie
  rw [e]
  cases hz : zf (fun t => (zlw u E W t).isSome) n 0 with
  | none => rfl
  | some t => dsimp only; rw [k t (by have := zf_some hz; omega)]
theorem zlie_none {n u : Nat} {D : Nat → Nat → Int} {W : Nat → Nat} : zlie n u D W = -1 ↔ ∀ t w, t < n → w < 12 → u.testBit w = true → ¬ D t w < D t (W t) := by
  unfold zlie
  constructor
  · intro h t w ht hw hu hlt
    cases hz : zf (fun t => (zlw u D W t).isSome) n 0 with
    | none =>
      have k := zf_none.mp hz t (by omega) (by omega)
      cases hk : zlw u D W t with
      | none =>
        have := zf_none.mp hk w (by omega) (by omega)
        rw [hu, decide_eq_true hlt] at this
        cases this
      | some v => rw [hk] at k; cases k
    | some t2 =>
      rw [hz] at h
      dsimp only at h
      obtain ⟨_, _, hs, _⟩ := zf_some hz
      cases hk : zlw u D W t2 with
      | none => rw [hk] at hs; cases hs
      | some v => rw [hk] at h; dsimp only at h; omega
  · intro h
    have hz : zf (fun t => (zlw u D W t).isSome) n 0 = none := zf_none.mpr (fun t _ ht => by
      have : zlw u D W t = none := zf_none.mpr (fun w _ hw => by
        cases hu : u.testBit w with
        | false => rfl
        | true => rw [decide_eq_false (h t w (by omega) (by omega) hu)]; rfl)
      rw [this]; rfl)
    rw [hz]
theorem zlie_bd {n u : Nat} {D : Nat → Nat → Int} {W : Nat → Nat} (hn : n ≤ 12) : -1 ≤ zlie n u D W ∧ zlie n u D W ≤ 1200 := by
  unfold zlie
  split
  · omega
  · rename_i t ht
    split
    · omega
    · rename_i w hw
      have h1 := zf_some ht
      have h2 := zf_some hw
      omega
/-- what a word is worth to a truth, by the wish -/
def zD (q : Int32) (A X : Nat → Int) (s : Int) (t w : Nat) : Int := zl q (A w - X t - s)
theorem i100 {t w : Nat} (ht : t < 12) (hw : w < 12) : ((100 : Int32) * Int32.ofNat t + Int32.ofNat w).toInt = 100 * t + w := by
  have e : (100 : Int32).toInt = 100 := rfl
  have m : ((100 : Int32) * Int32.ofNat t).toInt = 100 * t := by rw [m32 (by rw [e, ofNat_int (by omega)]; omega) (by rw [e, ofNat_int (by omega)]; omega), e, ofNat_int (by omega)]
  rw [a32 (by rw [m, ofNat_int (by omega)]; omega) (by rw [m, ofNat_int (by omega)]; omega), m, ofNat_int (by omega)]
theorem lie_in {V : sU} {a T n t : Nat} {W : Nat → Nat} {A : Nat → Int} (h : Rdy V a T n W A) (ht : t < n) (k2 : Nat → Int32 → sU → Option Int32) : f_57_30 k2 FU a (Int32.ofNat t) (f_55 a (Int32.ofNat t) (Int32.ofNat (W t)) V) 0 V = match zlw (zub W n) (zD (V.1 T 6) A (gX V T) (V.1 a 8).toInt) W t with | none => k2 a (Int32.ofNat t + 1) V | some w => some (100 * Int32.ofNat t + Int32.ofNat w) := by
  have h0 := h
  obtain ⟨⟨ha, htk, ⟨t1, t2, t3, t4, t5, t6, t7, t8, t9, t10, t11⟩, hW, hl, hwi, hbl, hcl⟩, hA, hb⟩ := h
  have hq := zub_lt (W := W) (n := n) (fun i hi => hW.1 i hi)
  have e12 : (12 : Int32).toInt = 12 := rfl
  have own : (f_55 a (Int32.ofNat t) (Int32.ofNat (W t)) V).toInt = zD (V.1 T 6) A (gX V T) (V.1 a 8).toInt t (W t) := (lossAt_ok h0 ht (hW.1 t ht) (W_used ht) hwi).1
  generalize hp : (fun w => (zub W n).testBit w && decide (zD (V.1 T 6) A (gX V T) (V.1 a 8).toInt t w < zD (V.1 T 6) A (gX V T) (V.1 a 8).toInt t (W t))) = p
  have hz : zlw (zub W n) (zD (V.1 T 6) A (gX V T) (V.1 a 8).toInt) W t = zf p 12 0 := by rw [← hp]; rfl
  rw [hz]
  refine loop_ex (fun m (s : Int32) => f_57_30 k2 m a (Int32.ofNat t) (f_55 a (Int32.ofNat t) (Int32.ofNat (W t)) V) s V) (fun k s => s = Int32.ofNat k ∧ ∀ j, 0 ≤ j → j < k → p j = false) (fun b => b = match zf p 12 0 with | none => k2 a (Int32.ofNat t + 1) V | some w => some (100 * Int32.ofNat t + Int32.ofNat w)) 12 ?_ ?_ 12 0 FU 0 (by omega) (by unfold FU; omega) ⟨rfl, fun j _ hj => by omega⟩
  · rintro k c m hk ⟨rfl, hno⟩
    rw [f_57_30, if_neg (by rw [i32_le, e12, ofNat_int (by omega)]; omega), hW.2.2.1]
    by_cases hs : (zub W n) < 2 ^ k
    · rw [if_pos ((bit_at hq hk).2.1.mpr hs)]
      have hf : zf p 12 0 = none := zf_none.mpr (fun w _ hw => by
        by_cases e : w < k
        · exact hno w (by omega) e
        · rw [← hp]
          dsimp only
          rw [Nat.testBit_lt_two_pow (Nat.lt_of_lt_of_le hs (Nat.pow_le_pow_right (by decide) (by omega)))]
          rfl)
      rw [hf]
      exact Or.inl rfl
    · rw [if_neg (fun q => hs ((bit_at hq hk).2.1.mp q)), f43_eq hW.2.2.1 hq hk]
      have next : p k = false → ∃ s', (s' = Int32.ofNat (k + 1) ∧ ∀ j, 0 ≤ j → j < k + 1 → p j = false) ∧ f_57_30 k2 m a (Int32.ofNat t) (f_55 a (Int32.ofNat t) (Int32.ofNat (W t)) V) (Int32.ofNat k + 1) V = f_57_30 k2 m a (Int32.ofNat t) (f_55 a (Int32.ofNat t) (Int32.ofNat (W t)) V) s' V := by
        intro hpk
        refine ⟨_, ⟨rfl, fun j _ hj => ?_⟩, by rw [ofNat_succ]⟩
        by_cases e : j = k
        · subst e; exact hpk
        · exact hno j (by omega) (by omega)
      by_cases htb : (zub W n).testBit k = true
      · rw [if_pos htb, if_neg (by decide)]
        have alt : (f_55 a (Int32.ofNat t) (Int32.ofNat k) V).toInt = zD (V.1 T 6) A (gX V T) (V.1 a 8).toInt t k := (lossAt_ok h0 ht hk htb hwi).1
        by_cases hlt : zD (V.1 T 6) A (gX V T) (V.1 a 8).toInt t k < zD (V.1 T 6) A (gX V T) (V.1 a 8).toInt t (W t)
        · rw [if_neg (by rw [cmp_ge, own, alt]; omega)]
          have hf : zf p 12 0 = some k := zf_eq (by omega) (by omega) (by rw [← hp]; dsimp only; rw [htb, decide_eq_true hlt]; rfl) hno
          rw [hf]
          exact Or.inl rfl
        · rw [if_pos (by rw [cmp_ge, own, alt]; omega)]
          exact Or.inr (next (by rw [← hp]; dsimp only; rw [decide_eq_false hlt, Bool.and_false]))
      · rw [if_neg htb, if_pos rfl]
        exact Or.inr (next (by rw [← hp]; dsimp only; rw [eq_false_of_ne_true htb]; rfl))
  · rintro c m ⟨rfl, hno⟩
    have hf : zf p 12 0 = none := zf_none.mpr (fun w h1 hw => hno w h1 (by omega))
    rw [f_57_30, if_pos (by rw [i32_le, e12, ofNat_int (by omega)]; omega), hf]
theorem lie_ok {V : sU} {a T n : Nat} {W : Nat → Nat} {A : Nat → Int} (h : Rdy V a T n W A) : ∃ r, f_57 a V = some r ∧ r.toInt = zlie n (zub W n) (zD (V.1 T 6) A (gX V T) (V.1 a 8).toInt) W := by
  have h0 := h
  obtain ⟨⟨ha, htk, ⟨t1, t2, t3, t4, t5, t6, t7, t8, t9, t10, t11⟩, hW, hl, hwi, hbl, hcl⟩, hA, hb⟩ := h
  obtain ⟨l1, l2, l3, l4⟩ := ln_rd ha
  unfold f_57
  refine loop_ex (fun m (s : Int32) => f_57_2 m a s V) (fun k s => s = Int32.ofNat k ∧ ∀ j, 0 ≤ j → j < k → (zlw (zub W n) (zD (V.1 T 6) A (gX V T) (V.1 a 8).toInt) W j).isSome = false) (fun b => ∃ r, b = some r ∧ r.toInt = zlie n (zub W n) (zD (V.1 T 6) A (gX V T) (V.1 a 8).toInt) W) n ?_ ?_ n 0 FU 0 (by omega) (by unfold FU; omega) ⟨rfl, fun j _ hj => by omega⟩
  · rintro k c m hk ⟨rfl, hno⟩
    have g1 : iget (a + 1) (Int32.ofNat k) V = Int32.ofNat (W k) := by rw [iget_k l1 (by omega)]; exact hW.2.1 k hk
    rw [f_57_2, htk, t1, if_neg (fun q => by have := (ofNat_le (by omega) (by omega)).mp q; omega), g1, lie_in h0 hk]
    cases hz : zlw (zub W n) (zD (V.1 T 6) A (gX V T) (V.1 a 8).toInt) W k with
    | none =>
      dsimp only
      refine Or.inr ⟨_, ⟨rfl, fun j _ hj => ?_⟩, by rw [ofNat_succ]⟩
      by_cases e : j = k
      · subst e; rw [hz]; rfl
      · exact hno j (by omega) (by omega)
    | some w =>
      dsimp only
      refine Or.inl ⟨_, rfl, ?_⟩
      have hw := zf_some hz
      rw [i100 (by omega) (by omega)]
      unfold zlie
      have hf : zf (fun t => (zlw (zub W n) (zD (V.1 T 6) A (gX V T) (V.1 a 8).toInt) W t).isSome) n 0 = some k := zf_eq (by omega) (by omega) (by rw [hz]; rfl) hno
      rw [hf]
      dsimp only
      rw [hz]
  · rintro c m ⟨rfl, hno⟩
    rw [f_57_2, htk, t1, if_pos ((ofNat_le (by omega) (by omega)).mpr (Nat.le_refl _))]
    refine ⟨_, rfl, ?_⟩
    unfold zlie
    have hf : zf (fun t => (zlw (zub W n) (zD (V.1 T 6) A (gX V T) (V.1 a 8).toInt) W t).isSome) n 0 = none := zf_none.mpr (fun w h1 hw => hno w h1 (by omega))
    rw [hf]
    rfl
/-- what who hears loses at a word, by doing d -/
def zhe (q : Int32) (n : Nat) (C X : Nat → Int) (W : Nat → Nat) (l : Int) (w : Nat) (d : Int) : Int := zs (fun t => zow C W w t * zl q (d - X t - l)) n
theorem heard_ok {V : sU} {a T n w : Nat} {W : Nat → Nat} {d : Int32} (h : Rd V a T n W) (hw : w < 12) (hd : 0 ≤ d.toInt ∧ d.toInt ≤ 999) : ∃ r, f_59 a (Int32.ofNat w) d V = some r ∧ r.toInt = zhe (V.1 T 6) n (gC V T) (gX V T) W (V.1 a 7).toInt w d.toInt := by
  obtain ⟨ha, htk, ⟨t1, t2, t3, t4, t5, t6, t7, t8, t9, t10, t11⟩, hW, hl, hwi, hbl, hcl⟩ := h
  obtain ⟨l1, l2, l3, l4⟩ := ln_rd ha
  have z0 : (0 : Int64).toInt = 0 := rfl
  have lo : ∀ i, i < n → 0 ≤ zl (V.1 T 6) (d.toInt - gX V T i - (V.1 a 7).toInt) ∧ zl (V.1 T 6) (d.toInt - gX V T i - (V.1 a 7).toInt) ≤ 2560000 := fun i hi => by
    have := t5 i hi
    exact zl_1600 (by omega) (by omega)
  have tb : ∀ i, i < n → 0 ≤ zow (gC V T) W w i * zl (V.1 T 6) (d.toInt - gX V T i - (V.1 a 7).toInt) ∧ zow (gC V T) W w i * zl (V.1 T 6) (d.toInt - gX V T i - (V.1 a 7).toInt) ≤ 99 * 2560000 := fun i hi => by
    have q1 := zow_bd (W := W) (w := w) (t5 i hi).2.2
    have q2 := lo i hi
    exact pbn (by omega) (by omega) q2.1 q2.2
  have sb : ∀ k, k ≤ n → 0 ≤ zs (fun t => zow (gC V T) W w t * zl (V.1 T 6) (d.toInt - gX V T t - (V.1 a 7).toInt)) k ∧ zs (fun t => zow (gC V T) W w t * zl (V.1 T 6) (d.toInt - gX V T t - (V.1 a 7).toInt)) k ≤ 12 * (99 * 2560000) := fun k hk => zs_bd (by omega) (fun i hi => tb i (by omega)) (by omega)
  unfold f_59
  refine loop_ex (fun m (s' : Int64 × Int32) => f_59_5 m a (Int32.ofNat w) d s'.1 s'.2 V) (fun k s' => s'.2 = Int32.ofNat k ∧ s'.1.toInt = zs (fun t => zow (gC V T) W w t * zl (V.1 T 6) (d.toInt - gX V T t - (V.1 a 7).toInt)) k) (fun b => ∃ r, b = some r ∧ r.toInt = zhe (V.1 T 6) n (gC V T) (gX V T) W (V.1 a 7).toInt w d.toInt) n ?_ ?_ n 0 FU (0, 0) (by omega) (by unfold FU; omega) ⟨rfl, rfl⟩
  · rintro k ⟨al, c⟩ m hk ⟨rfl, hal⟩
    dsimp only at hal ⊢
    refine Or.inr ?_
    have sk := sb k (by omega)
    have lk := lo k hk
    have bx := t5 k hk
    have g1 : iget (a + 1) (Int32.ofNat k) V = Int32.ofNat (W k) := by rw [iget_k l1 (by omega)]; exact hW.2.1 k hk
    have g3 : iget (T + 3) (Int32.ofNat k) V = V.1 (T + 4) k := iget_k t10 (by omega)
    have gx : iget (T + 1) (Int32.ofNat k) V = V.1 (T + 2) k := iget_k t9 (by omega)
    have wk := hW.1 k hk
    rw [f_59_5, htk, t1, if_neg (fun q => by have := (ofNat_le (by omega) (by omega)).mp q; omega), g1, g3, gx, ofNat_succ]
    by_cases e : W k = w
    · rw [if_pos (by rw [e])]
      have eX : (V.1 (T + 2) k).toInt = gX V T k := rfl
      have d1 : (d - V.1 (T + 2) k).toInt = d.toInt - gX V T k := by rw [s32 (by rw [eX]; omega) (by rw [eX]; omega), eX]
      have d2 : (d - V.1 (T + 2) k - V.1 a 7).toInt = d.toInt - gX V T k - (V.1 a 7).toInt := by rw [s32 (by rw [d1]; omega) (by rw [d1]; omega), d1]
      have q := zl_c (U := V) (T := T) (d := (d - V.1 (T + 2) k - V.1 a 7).toInt64) (by rw [w64, d2]; omega) (by rw [w64, d2]; omega)
      rw [w64, d2] at q
      have cI : (V.1 (T + 4) k).toInt64.toInt = gC V T k := w64 _
      have tk := tb k hk
      have ez : zow (gC V T) W w k = gC V T k := if_pos e
      rw [ez] at tk
      have m1 : ((V.1 (T + 4) k).toInt64 * f_105 T (d - V.1 (T + 2) k - V.1 a 7).toInt64 V).toInt = gC V T k * zl (V.1 T 6) (d.toInt - gX V T k - (V.1 a 7).toInt) := by rw [m64 (by rw [cI, q]; omega) (by rw [cI, q]; omega), cI, q]
      refine ⟨(al + (V.1 (T + 4) k).toInt64 * f_105 T (d - V.1 (T + 2) k - V.1 a 7).toInt64 V, Int32.ofNat (k + 1)), ⟨rfl, ?_⟩, rfl⟩
      show _ = zs _ k + zow (gC V T) W w k * zl (V.1 T 6) (d.toInt - gX V T k - (V.1 a 7).toInt)
      dsimp only
      rw [ez, a64 (by rw [hal, m1]; omega) (by rw [hal, m1]; omega), hal, m1]
    · rw [if_neg (fun q => e (by have := congrArg Int32.toNatClampNeg q; rwa [ofNat_clamp (by omega), ofNat_clamp (by omega)] at this))]
      have ez : zow (gC V T) W w k = 0 := if_neg e
      refine ⟨(al + 0, Int32.ofNat (k + 1)), ⟨rfl, ?_⟩, rfl⟩
      show _ = zs _ k + zow (gC V T) W w k * zl (V.1 T 6) (d.toInt - gX V T k - (V.1 a 7).toInt)
      dsimp only
      rw [ez, Int.zero_mul, a64 (by rw [hal, z0]; omega) (by rw [hal, z0]; omega), hal, z0]
  · rintro ⟨al, c⟩ m ⟨rfl, hal⟩
    dsimp only at hal ⊢
    rw [f_59_5, htk, t1, if_pos ((ofNat_le (by omega) (by omega)).mpr (Nat.le_refl _))]
    exact ⟨_, rfl, hal⟩
/-- the first used word at which another number were better than what was told -/
def zto (q : Int32) (n u : Nat) (C X : Nat → Int) (W : Nat → Nat) (l : Int) (B A : Nat → Int) : Int := match zf (fun w => u.testBit w && decide (zhe q n C X W l w (B w) < zhe q n C X W l w (A w))) 12 0 with
  | none => -1
  | some w => 10000 + w
theorem told_ok {V : sU} {a T n : Nat} {W : Nat → Nat} {A : Nat → Int} (h : Rdy V a T n W A) (hg : Gd V a T n W n) : ∃ r, f_58_21 FU a 0 V = some r ∧ r.toInt = zto (V.1 T 6) n (zub W n) (gC V T) (gX V T) W (V.1 a 7).toInt (zA V a T n W) A := by
  have h0 := h
  obtain ⟨hR, hA, hb⟩ := h
  obtain ⟨l1, l2, l3, l4⟩ := ln_rd hR.1
  have hW := hR.2.2.2.1
  have hq := zub_lt (W := W) (n := n) (fun i hi => hW.1 i hi)
  have e12 : (12 : Int32).toInt = 12 := rfl
  have e1k : (10000 : Int32).toInt = 10000 := rfl
  unfold zto
  generalize hp : (fun w => (zub W n).testBit w && decide (zhe (V.1 T 6) n (gC V T) (gX V T) W (V.1 a 7).toInt w (zA V a T n W w) < zhe (V.1 T 6) n (gC V T) (gX V T) W (V.1 a 7).toInt w (A w))) = p
  refine loop_ex (fun m (s : Int32) => f_58_21 m a s V) (fun k s => s = Int32.ofNat k ∧ ∀ j, 0 ≤ j → j < k → p j = false) (fun b => ∃ r, b = some r ∧ r.toInt = match zf p 12 0 with | none => -1 | some w => 10000 + (w : Int)) 12 ?_ ?_ 12 0 FU 0 (by omega) (by unfold FU; omega) ⟨rfl, fun j _ hj => by omega⟩
  · rintro k c m hk ⟨rfl, hno⟩
    have next : p k = false → ∃ s', (s' = Int32.ofNat (k + 1) ∧ ∀ j, 0 ≤ j → j < k + 1 → p j = false) ∧ f_58_21 m a (Int32.ofNat k + 1) V = f_58_21 m a s' V := by
      intro hpk
      refine ⟨_, ⟨rfl, fun j _ hj => ?_⟩, by rw [ofNat_succ]⟩
      by_cases e : j = k
      · subst e; exact hpk
      · exact hno j (by omega) (by omega)
    rw [f_58_21, if_neg (by rw [i32_le, e12, ofNat_int (by omega)]; omega), f43_eq hW.2.2.1 hq hk]
    by_cases htb : (zub W n).testBit k = true
    · rw [if_pos htb, if_neg (by decide)]
      obtain ⟨r, r1, r2⟩ := best_ok hR hg hk
      have rb := zlst_bd (q := V.1 T 6) (n := n) (wt := zwt (V.1 a 11) (V.1 a 13).toInt (V.1 a 10).toInt (gC V T) W k) (y := gY V a T)
      have r3 : r.toInt = zlst (V.1 T 6) n (zwt (V.1 a 11) (V.1 a 13).toInt (V.1 a 10).toInt (gC V T) W k) (gY V a T) := r2
      obtain ⟨x, x1, x2⟩ := heard_ok (w := k) (d := r) hR hk (by omega)
      have i3 : iget (a + 3) (Int32.ofNat k) V = V.1 (a + 4) k := iget_k l2 hk
      have ea := hA k hk htb
      have ba := hb k hk
      obtain ⟨y, y1, y2⟩ := heard_ok (w := k) (d := V.1 (a + 4) k) hR hk (by omega)
      rw [r1, Option.bind_some, x1, Option.bind_some, i3, y1, Option.bind_some]
      rw [r2] at x2
      rw [ea] at y2
      by_cases hlt : zhe (V.1 T 6) n (gC V T) (gX V T) W (V.1 a 7).toInt k (zA V a T n W k) < zhe (V.1 T 6) n (gC V T) (gX V T) W (V.1 a 7).toInt k (A k)
      · rw [if_neg (by rw [cmp_ge, x2, y2]; omega)]
        have hf : zf p 12 0 = some k := zf_eq (by omega) (by omega) (by rw [← hp]; dsimp only; rw [htb, decide_eq_true hlt]; rfl) hno
        rw [hf]
        refine Or.inl ⟨_, rfl, ?_⟩
        dsimp only
        rw [a32 (by rw [e1k, ofNat_int (by omega)]; omega) (by rw [e1k, ofNat_int (by omega)]; omega), e1k, ofNat_int (by omega)]
      · rw [if_pos (by rw [cmp_ge, x2, y2]; omega)]
        exact Or.inr (next (by rw [← hp]; dsimp only; rw [decide_eq_false hlt, Bool.and_false]))
    · rw [if_neg htb, if_pos rfl]
      exact Or.inr (next (by rw [← hp]; dsimp only; rw [eq_false_of_ne_true htb]; rfl))
  · rintro c m ⟨rfl, hno⟩
    have hf : zf p 12 0 = none := zf_none.mpr (fun w h1 hw => hno w h1 (by omega))
    rw [f_58_21, if_pos (by rw [i32_le, e12, ofNat_int (by omega)]; omega), hf]
    exact ⟨_, rfl, rfl⟩
theorem verdict_ok {V : sU} {a T n : Nat} {W : Nat → Nat} {A : Nat → Int} (h : Rdy V a T n W A) (hg : Gd V a T n W n) : ∃ r, f_58 a V = some r ∧ r.toInt = if zlie n (zub W n) (zD (V.1 T 6) A (gX V T) (V.1 a 8).toInt) W = -1 then (if V.1 a 12 = 0 then -1 else zto (V.1 T 6) n (zub W n) (gC V T) (gX V T) W (V.1 a 7).toInt (zA V a T n W) A) else zlie n (zub W n) (zD (V.1 T 6) A (gX V T) (V.1 a 8).toInt) W := by
  have em1 : ((-1) : Int32).toInt = -1 := rfl
  obtain ⟨r, r1, r2⟩ := lie_ok h
  obtain ⟨x, x1, x2⟩ := told_ok h hg
  unfold f_58
  rw [r1, Option.bind_some]
  by_cases hl : zlie n (zub W n) (zD (V.1 T 6) A (gX V T) (V.1 a 8).toInt) W = -1
  · rw [if_pos (by rw [i32_eq, em1, r2, hl]), if_pos hl]
    by_cases ht : V.1 a 12 = 0
    · rw [if_pos ht, if_pos ht]
      exact ⟨_, rfl, by rw [r2, hl]⟩
    · rw [if_neg ht, if_neg ht]
      exact ⟨x, x1, x2⟩
  · rw [if_neg (by rw [i32_eq, em1, r2]; exact hl), if_neg hl]
    exact ⟨r, rfl, r2⟩
