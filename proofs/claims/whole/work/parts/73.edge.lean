/-! edge: the greatest wish by which a run holds -/
/-- the greatest below k that fits; -1: none -/
def zdn (p : Int → Bool) : Nat → Int
  | 0 => -1
  | k + 1 => if p (k : Int) then (k : Int) else zdn p k
theorem zdn_none {p : Int → Bool} : ∀ {k : Nat}, (∀ v : Int, 0 ≤ v → v < k → p v = false) → zdn p k = -1 := by
  intro k
  induction k with
  | zero => intro _; rfl
  | succ k ih =>
    intro h
    unfold zdn
    rw [h k (by omega) (by omega), if_neg Bool.false_ne_true]
    exact ih (fun v h1 h2 => h v h1 (by omega))
theorem zdn_eq {p : Int → Bool} {r : Int} : ∀ {k : Nat}, 0 ≤ r → r < k → p r = true → (∀ v : Int, r < v → v < k → p v = false) → zdn p k = r := by
  intro k
  induction k with
  | zero => intro h1 h2; omega
  | succ k ih =>
    intro h1 h2 h3 h4
    unfold zdn
    by_cases e : r = k
    · rw [← e, h3, if_pos rfl]
    · rw [h4 k (by omega) (by omega), if_neg Bool.false_ne_true]
      exact ih h1 (by omega) h3 (fun v q1 q2 => h4 v q1 (by omega))
theorem zdn_bd (p : Int → Bool) : ∀ k : Nat, -1 ≤ zdn p k ∧ zdn p k < k := by
  intro k
  induction k with
  | zero => unfold zdn; omega
  | succ k ih =>
    unfold zdn
    split
    · omega
    · omega
theorem zdn_cong {p : Int → Bool} {k : Nat} (h : p (k : Int) = false) : zdn p (k + 1) = zdn p k := by
  show (if p (k : Int) then (k : Int) else zdn p k) = _
  rw [h, if_neg Bool.false_ne_true]
theorem zdn_top {p : Int → Bool} {k : Nat} (h : p (k : Int) = true) : zdn p (k + 1) = k := by
  show (if p (k : Int) then (k : Int) else zdn p k) = _
  rw [h, if_pos rfl]
/-- whether a truth keeps its word by a wish -/
theorem keeps_iff {q : Int32} {o a x v : Int} : ¬ zl q (a - x - v) < zl q (o - x - v) ↔ (o < a → 2 * v ≤ o + a - 2 * x) ∧ (a < o → o + a - 2 * x ≤ 2 * v) := by
  have k := zl_le (q := q) (d := o - x - v) (e := a - x - v)
  constructor
  · intro h
    have h := k.mp (by omega)
    omega
  · intro h
    have : (o - x - v).natAbs ≤ (a - x - v).natAbs := by omega
    have := k.mpr this
    omega
def kp (o a x v : Int) : Prop := (o < a → 2 * v ≤ o + a - 2 * x) ∧ (a < o → o + a - 2 * x ≤ 2 * v)
theorem f287_int {a b : Int32} {U : sU} : (f_287 a b U).toInt = if b.toInt < a.toInt then b.toInt else a.toInt := by
  unfold f_287
  by_cases h : b < a
  · rw [if_pos h, if_pos (i32_lt.mp h)]
  · rw [if_neg h, if_neg (fun q => h (i32_lt.mpr q))]
theorem f286_int {a b : Int32} {U : sU} : (f_286 a b U).toInt = if a.toInt < b.toInt then b.toInt else a.toInt := by
  unfold f_286
  by_cases h : a < b
  · rw [if_pos h, if_pos (i32_lt.mp h)]
  · rw [if_neg h, if_neg (fun q => h (i32_lt.mpr q))]
/-- what low and high say -/
def Lh (lo hi : Int) (P : Int → Prop) : Prop := 0 ≤ lo ∧ lo ≤ 5000 ∧ -5000 ≤ hi ∧ hi ≤ 63 ∧ ∀ v, 0 ≤ v → v ≤ 63 → ((lo ≤ v ∧ v ≤ hi) ↔ P v)
theorem wish_in {V : sU} {a T n t : Nat} {W : Nat → Nat} {A : Nat → Int} (h : Rdy V a T n W A) (ht : t < n) (k7 : Nat → Int32 → Int32 → Int32 → sU → Option Int32) {lo hi own : Int32} {P : Int → Prop} (hP : Lh lo.toInt hi.toInt P) (ho : own.toInt = A (W t)) : ∃ lo' hi' : Int32, f_60_38 k7 FU a lo hi (Int32.ofNat t) own 0 V = k7 a lo' hi' (Int32.ofNat (t + 1)) V ∧ Lh lo'.toInt hi'.toInt (fun v => P v ∧ ∀ w, w < 12 → (zub W n).testBit w = true → kp (A (W t)) (A w) (gX V T t) v) := by
  have h0 := h
  obtain ⟨⟨ha, htk, ⟨t1, t2, t3, t4, t5, t6, t7, t8, t9, t10, t11⟩, hW, hl, hwi, hbl, hcl⟩, hA, hb⟩ := h
  obtain ⟨l1, l2, l3, l4⟩ := ln_rd ha
  have hq := zub_lt (W := W) (n := n) (fun i hi => hW.1 i hi)
  have e12 : (12 : Int32).toInt = 12 := rfl
  have e2 : (2 : Int32).toInt = 2 := rfl
  have e1 : (1 : Int32).toInt = 1 := rfl
  have bX := t5 t ht
  have bo := hb (W t) (hW.1 t ht)
  refine loop_ex (fun m (s : Int32 × Int32 × Int32) => f_60_38 k7 m a s.1 s.2.1 (Int32.ofNat t) own s.2.2 V) (fun k s => s.2.2 = Int32.ofNat k ∧ Lh s.1.toInt s.2.1.toInt (fun v => P v ∧ ∀ w, w < k → (zub W n).testBit w = true → kp (A (W t)) (A w) (gX V T t) v)) (fun o => ∃ lo' hi' : Int32, o = k7 a lo' hi' (Int32.ofNat (t + 1)) V ∧ Lh lo'.toInt hi'.toInt (fun v => P v ∧ ∀ w, w < 12 → (zub W n).testBit w = true → kp (A (W t)) (A w) (gX V T t) v)) 12 ?_ ?_ 12 0 FU (lo, hi, 0) (by omega) (by unfold FU; omega) ⟨rfl, ?_⟩
  · rintro k ⟨lo, hi, c⟩ m hk ⟨rfl, hL⟩
    dsimp only at hL ⊢
    rw [f_60_38, if_neg (by rw [i32_le, e12, ofNat_int (by omega)]; omega), hW.2.2.1]
    by_cases hs : (zub W n) < 2 ^ k
    · rw [if_pos ((bit_at hq hk).2.1.mpr hs), ofNat_succ]
      refine Or.inl ⟨lo, hi, rfl, hL.1, hL.2.1, hL.2.2.1, hL.2.2.2.1, fun v v0 v63 => ?_⟩
      rw [hL.2.2.2.2 v v0 v63]
      refine ⟨fun g => ⟨g.1, fun w hw hu => ?_⟩, fun g => ⟨g.1, fun w hw hu => g.2 w (by omega) hu⟩⟩
      by_cases e : w < k
      · exact g.2 w e hu
      · rw [Nat.testBit_lt_two_pow (Nat.lt_of_lt_of_le hs (Nat.pow_le_pow_right (by decide) (by omega)))] at hu
        cases hu
    · rw [if_neg (fun q => hs ((bit_at hq hk).2.1.mp q)), f43_eq hW.2.2.1 hq hk]
      -- nothing new of this word
      have same : (∀ v, 0 ≤ v → v ≤ 63 → (zub W n).testBit k = true → kp (A (W t)) (A k) (gX V T t) v) → Lh lo.toInt hi.toInt (fun v => P v ∧ ∀ w, w < k + 1 → (zub W n).testBit w = true → kp (A (W t)) (A w) (gX V T t) v) := by
        intro hk'
        refine ⟨hL.1, hL.2.1, hL.2.2.1, hL.2.2.2.1, fun v v0 v63 => ?_⟩
        rw [hL.2.2.2.2 v v0 v63]
        refine ⟨fun g => ⟨g.1, fun w hw hu => ?_⟩, fun g => ⟨g.1, fun w hw hu => g.2 w (by omega) hu⟩⟩
        by_cases e : w = k
        · subst e; exact hk' v v0 v63 hu
        · exact g.2 w (by omega) hu
      by_cases htb : (zub W n).testBit k = true
      · rw [if_pos htb, if_neg (by decide)]
        have i3 : iget (a + 3) (Int32.ofNat k) V = V.1 (a + 4) k := iget_k l2 hk
        have i1 : iget (T + 1) (Int32.ofNat t) V = V.1 (T + 2) t := iget_k t9 (by omega)
        have eA := hA k hk htb
        have bA := hb k hk
        have eX : (V.1 (T + 2) t).toInt = gX V T t := rfl
        have q1 : (own + V.1 (a + 4) k).toInt = A (W t) + A k := by rw [a32 (by rw [ho, eA]; omega) (by rw [ho, eA]; omega), ho, eA]
        have q2 : ((2 : Int32) * V.1 (T + 2) t).toInt = 2 * gX V T t := by rw [m32 (by rw [e2, eX]; omega) (by rw [e2, eX]; omega), e2, eX]
        have q3 : (own + V.1 (a + 4) k - 2 * V.1 (T + 2) t).toInt = A (W t) + A k - 2 * gX V T t := by rw [s32 (by rw [q1, q2]; omega) (by rw [q1, q2]; omega), q1, q2]
        rw [i3, htk, i1]
        by_cases c1 : V.1 (a + 4) k ≤ own
        · rw [if_pos c1]
          rw [i32_le, eA, ho] at c1
          unfold f_60_120
          rw [f43_eq hW.2.2.1 hq hk, if_pos htb, if_neg (by decide), i3]
          by_cases c2 : own ≤ V.1 (a + 4) k
          · rw [if_pos c2, ofNat_succ]
            rw [i32_le, eA, ho] at c2
            exact Or.inr ⟨(lo, hi, Int32.ofNat (k + 1)), ⟨rfl, same (fun v _ _ _ => by unfold kp; omega)⟩, rfl⟩
          · rw [if_neg c2]
            rw [i32_le, eA, ho] at c2
            have q4 : (own + V.1 (a + 4) k - 2 * V.1 (T + 2) t + 1).toInt = A (W t) + A k - 2 * gX V T t + 1 := by rw [a32 (by rw [q3, e1]; omega) (by rw [q3, e1]; omega), q3, e1]
            obtain ⟨r, r1, r2⟩ := f283_eq (x := own + V.1 (a + 4) k - 2 * V.1 (T + 2) t + 1) (y := 2) (U := V) (by decide) (by rw [q4]; omega)
            rw [q4, e2] at r2
            rw [r1, Option.bind_some, ofNat_succ]
            have lo2 : (f_286 lo r V).toInt = if lo.toInt < r.toInt then r.toInt else lo.toInt := f286_int
            refine Or.inr ⟨(f_286 lo r V, hi, Int32.ofNat (k + 1)), ⟨rfl, ?_⟩, rfl⟩
            obtain ⟨L1, L2, L3, L4, L5⟩ := hL
            refine ⟨?_, ?_, L3, L4, fun v v0 v63 => ?_⟩
            · dsimp only; rw [lo2]; split <;> omega
            · dsimp only; rw [lo2]; split <;> omega
            · dsimp only at L5 ⊢
              have five := L5 v v0 v63
              have new : (f_286 lo r V).toInt ≤ v ↔ lo.toInt ≤ v ∧ kp (A (W t)) (A k) (gX V T t) v := by
                rw [lo2]
                unfold kp
                split <;> omega
              constructor
              · rintro ⟨g1, g2⟩
                have g3 := new.mp g1
                have g4 := five.mp ⟨g3.1, g2⟩
                refine ⟨g4.1, fun w hw hu => ?_⟩
                by_cases e : w = k
                · subst e; exact g3.2
                · exact g4.2 w (by omega) hu
              · rintro ⟨g1, g2⟩
                have g4 := five.mpr ⟨g1, fun w hw hu => g2 w (by omega) hu⟩
                exact ⟨new.mpr ⟨g4.1, g2 k (by omega) htb⟩, g4.2⟩
        · rw [if_neg c1]
          rw [i32_le, eA, ho] at c1
          obtain ⟨r, r1, r2⟩ := f283_eq (x := own + V.1 (a + 4) k - 2 * V.1 (T + 2) t) (y := 2) (U := V) (by decide) (by rw [q3]; omega)
          rw [q3, e2] at r2
          rw [r1, Option.bind_some, ofNat_succ]
          have hi2 : (f_287 hi r V).toInt = if r.toInt < hi.toInt then r.toInt else hi.toInt := f287_int
          refine Or.inr ⟨(lo, f_287 hi r V, Int32.ofNat (k + 1)), ⟨rfl, ?_⟩, rfl⟩
          obtain ⟨L1, L2, L3, L4, L5⟩ := hL
          refine ⟨L1, L2, ?_, ?_, fun v v0 v63 => ?_⟩
          · dsimp only; rw [hi2]; split <;> omega
          · dsimp only; rw [hi2]; split <;> omega
          · dsimp only at L5 ⊢
            have five := L5 v v0 v63
            have new : v ≤ (f_287 hi r V).toInt ↔ v ≤ hi.toInt ∧ kp (A (W t)) (A k) (gX V T t) v := by
              rw [hi2]
              unfold kp
              split <;> omega
            constructor
            · rintro ⟨g1, g2⟩
              have g3 := new.mp g2
              have g4 := five.mp ⟨g1, g3.1⟩
              refine ⟨g4.1, fun w hw hu => ?_⟩
              by_cases e : w = k
              · subst e; exact g3.2
              · exact g4.2 w (by omega) hu
            · rintro ⟨g1, g2⟩
              have g4 := five.mpr ⟨g1, fun w hw hu => g2 w (by omega) hu⟩
              exact ⟨g4.1, new.mpr ⟨g4.2, g2 k (by omega) htb⟩⟩
      · rw [if_neg htb, if_pos rfl]
        unfold f_60_120
        rw [f43_eq hW.2.2.1 hq hk, if_neg htb, if_pos rfl, ofNat_succ]
        exact Or.inr ⟨(lo, hi, Int32.ofNat (k + 1)), ⟨rfl, same (fun v _ _ hu => absurd hu htb)⟩, rfl⟩
  · rintro ⟨lo, hi, c⟩ m ⟨rfl, hL⟩
    dsimp only at hL ⊢
    rw [f_60_38, if_pos (by rw [i32_le, e12, ofNat_int (by omega)]; omega), ofNat_succ]
    exact ⟨lo, hi, rfl, hL⟩
  · refine ⟨hP.1, hP.2.1, hP.2.2.1, hP.2.2.2.1, fun v v0 v63 => ?_⟩
    rw [hP.2.2.2.2 v v0 v63]
    exact ⟨fun g => ⟨g, fun w hw _ => by omega⟩, fun g => g.1⟩
theorem wish_ok {V : sU} {a T n b : Nat} {W : Nat → Nat} {A : Nat → Int} (h : Rdy V a T n W A) (hB : Bw n W b) : ∃ r, f_60 a V = some r ∧ r.toInt = zdn (fun v => zok n (zD (V.1 T 6) A (gX V T) v) W) 64 := by
  have h0 := h
  obtain ⟨⟨ha, htk, ⟨t1, t2, t3, t4, t5, t6, t7, t8, t9, t10, t11⟩, hW, hl, hwi, hbl, hcl⟩, hA, hb⟩ := h
  obtain ⟨l1, l2, l3, l4⟩ := ln_rd ha
  have em1 : ((-1) : Int32).toInt = -1 := rfl
  have b12 := hB.2.1
  unfold f_60
  refine loop_ex (fun m (s : Int32 × Int32 × Int32) => f_60_7 m a s.1 s.2.1 s.2.2 V) (fun k s => s.2.2 = Int32.ofNat k ∧ Lh s.1.toInt s.2.1.toInt (fun v => ∀ t, t < k → ∀ w, w < 12 → (zub W n).testBit w = true → kp (A (W t)) (A w) (gX V T t) v)) (fun o => ∃ r, o = some r ∧ r.toInt = zdn (fun v => zok n (zD (V.1 T 6) A (gX V T) v) W) 64) n ?_ ?_ n 0 FU (0, 63, 0) (by omega) (by unfold FU; omega) ⟨rfl, ?_⟩
  · rintro k ⟨lo, hi, c⟩ m hk ⟨rfl, hL⟩
    dsimp only at hL ⊢
    refine Or.inr ?_
    have g1 : iget (a + 1) (Int32.ofNat k) V = Int32.ofNat (W k) := by rw [iget_k l1 (by omega)]; exact hW.2.1 k hk
    have wk := hW.1 k hk
    have g2 : iget (a + 3) (Int32.ofNat (W k)) V = V.1 (a + 4) (W k) := iget_k l2 wk
    rw [f_60_7, htk, t1, if_neg (fun q => by have := (ofNat_le (by omega) (by omega)).mp q; omega), g1, g2]
    obtain ⟨lo', hi', r1, r2⟩ := wish_in h0 hk (fun a v1 v2 v3 U => f_60_7 m a v1 v2 v3 U) hL (own := V.1 (a + 4) (W k)) (hA (W k) wk (W_used hk))
    rw [r1]
    refine ⟨(lo', hi', Int32.ofNat (k + 1)), ⟨rfl, r2.1, r2.2.1, r2.2.2.1, r2.2.2.2.1, fun v v0 v63 => ?_⟩, rfl⟩
    rw [r2.2.2.2.2 v v0 v63]
    refine ⟨fun g t htk => ?_, fun g => ⟨fun t htk => g t (by omega), g k (by omega)⟩⟩
    by_cases e : t = k
    · subst e; exact g.2
    · exact g.1 t (by omega)
  · rintro ⟨lo, hi, c⟩ m ⟨rfl, hL⟩
    dsimp only at hL ⊢
    have st : ∀ v, 0 ≤ v → v ≤ 63 → (zok n (zD (V.1 T 6) A (gX V T) v) W = true ↔ lo.toInt ≤ v ∧ v ≤ hi.toInt) := by
      intro v v0 v63
      rw [zok_iff hB, hL.2.2.2.2 v v0 v63]
      constructor
      · intro g t ht w hw hu
        exact keeps_iff.mp (g t w ht ((Bw_used hB).mp hu))
      · intro g t w ht hw
        exact keeps_iff.mpr (g t ht w (by omega) ((Bw_used hB).mpr hw))
    rw [f_60_7, htk, t1, if_pos ((ofNat_le (by omega) (by omega)).mpr (Nat.le_refl _))]
    by_cases c1 : hi < lo
    · rw [if_pos c1]
      rw [i32_lt] at c1
      refine ⟨_, rfl, ?_⟩
      rw [em1, zdn_none]
      intro v v0 v64
      exact eq_false_of_ne_true (fun g => by have := (st v v0 (by omega)).mp g; omega)
    · rw [if_neg c1]
      rw [i32_lt] at c1
      refine ⟨_, rfl, ?_⟩
      have L1 := hL.1
      have L4 := hL.2.2.2.1
      rw [zdn_eq (r := hi.toInt) (by omega) (by omega) ((st hi.toInt (by omega) L4).mpr ⟨by omega, by omega⟩) (fun v q1 q2 => eq_false_of_ne_true (fun g => by have := (st v (by omega) (by omega)).mp g; omega))]
  · have e63 : (63 : Int32).toInt = 63 := rfl
    have e0 : (0 : Int32).toInt = 0 := rfl
    dsimp only
    rw [e63, e0]
    exact ⟨by omega, by omega, by omega, by omega, fun v v0 v63 => ⟨fun _ t ht => by omega, fun _ => ⟨v0, v63⟩⟩⟩
