/-! draw: lots, the truth drawn, the word heard -/
/-- the next number; g stands for it, so that nobody reckons it -/
def nu (z : Int32) : Int32 := z * 1103515245 + 12345 &&& 2147483647
def Nu (g : Int32 → Int32) : Prop := (∀ z : Int32, (z * 1103515245 + 12345 &&& 2147483647) = g z) ∧ ∀ z, 0 ≤ (g z).toInt
theorem mask_nn (y : Int32) : 0 ≤ (y &&& 2147483647).toInt := by
  have h : (y.toBitVec &&& (2147483647 : Int32).toBitVec).msb = (y.toBitVec.msb && (2147483647 : Int32).toBitVec.msb) := BitVec.msb_and
  rw [← Int32.toBitVec_and, (by decide : (2147483647 : Int32).toBitVec.msb = false), Bool.and_false, BitVec.msb_eq_toInt] at h
  have h2 : ¬ (y &&& 2147483647).toBitVec.toInt < 0 := of_decide_eq_false h
  have h3 : (y &&& 2147483647).toInt = (y &&& 2147483647).toBitVec.toInt := rfl
  omega
theorem nu_Nu : Nu nu := ⟨fun _ => rfl, fun _ => mask_nn _⟩
/-- a lot below an end, by a number -/
def lot (z : Int32) (e : Int) : Int := z.toInt / 65536 % e
theorem lot_m {z x : Int32} (hz : 0 ≤ z.toInt) (hx : 0 < x.toInt) : (z / 65536 - z / 65536 / x * x).toInt = lot z x.toInt ∧ 0 ≤ lot z x.toInt ∧ lot z x.toInt < x.toInt := by
  have e65 : (65536 : Int32).toInt = 65536 := rfl
  have zl := z.toInt_lt
  have q1 : (z / 65536).toInt = z.toInt / 65536 := by rw [div32 (by decide), e65, Int.tdiv_eq_ediv_of_nonneg hz]
  have b1 : 0 ≤ z.toInt / 65536 := Int.ediv_nonneg hz (by decide)
  have b2 := Int.ediv_le_self (a := z.toInt) 65536 hz
  have q2 : (z / 65536 / x).toInt = z.toInt / 65536 / x.toInt := by rw [div32 hx, q1, Int.tdiv_eq_ediv_of_nonneg b1]
  have k1 := Int.mul_ediv_add_emod (z.toInt / 65536) x.toInt
  have k2 := Int.emod_nonneg (z.toInt / 65536) (by omega : x.toInt ≠ 0)
  have k3 := Int.emod_lt_of_pos (z.toInt / 65536) hx
  have c := Int.mul_comm (z.toInt / 65536 / x.toInt) x.toInt
  have nn : 0 ≤ x.toInt * (z.toInt / 65536 / x.toInt) := Int.mul_nonneg (by omega) (Int.ediv_nonneg b1 (by omega))
  have q3 : (z / 65536 / x * x).toInt = x.toInt * (z.toInt / 65536 / x.toInt) := by rw [m32 (by rw [q2]; omega) (by rw [q2]; omega), q2, c]
  refine ⟨?_, k2, k3⟩
  rw [s32 (by rw [q1, q3]; omega) (by rw [q1, q3]; omega), q1, q3]
  unfold lot
  omega
theorem shr16 {z : Int32} (hz : 0 ≤ z.toInt) : z >>> (16 &&& 31) = z / 65536 := by
  have zl := z.toInt_lt
  have ez : z = Int32.ofNat z.toNatClampNeg := i32_nat hz
  have zc : z.toNatClampNeg < 2147483648 := by rw [clamp_int]; omega
  have e65 : (65536 : Int32).toInt = 65536 := rfl
  have h := shr_nat (q := z.toNatClampNeg) (w := 16) zc (by omega)
  rw [← ez] at h
  have h : z >>> (16 &&& 31) = Int32.ofNat (z.toNatClampNeg / 2 ^ 16) := h
  rw [h]
  apply Int32.toInt_inj.mp
  have le : z.toNatClampNeg / 2 ^ 16 ≤ z.toNatClampNeg := Nat.div_le_self _ _
  rw [ofNat_int (by omega), div32 (by decide), e65, Int.tdiv_eq_ediv_of_nonneg hz]
  have : (z.toNatClampNeg : Int) = z.toInt := by rw [clamp_int]; omega
  rw [← this, (by decide : (2 : Nat) ^ 16 = 65536)]
  omega
/-- one draw: the next number, the truth, the word -/
def zdt (n : Nat) (C : Nat → Int) (L : Int) : Nat := (zf (fun t => decide (L < zs C (t + 1))) n 0).getD 0
def zdw (u : Nat) (p : Int) : Nat := (zf (fun w => u.testBit w && decide ((zpn u w : Int) = p)) 12 0).getD 0
def zdo (nu : Int32 → Int32) (n u : Nat) (bl : Int32) (cl un : Int) (C : Nat → Int) (W : Nat → Nat) (z : Int32) : Int32 × Nat × Nat :=
  if bl = 0 then (nu z, zdt n C (lot (nu z) (zs C n)), W (zdt n C (lot (nu z) (zs C n))))
  else if lot (nu (nu z)) 100 < cl then (nu (nu z), zdt n C (lot (nu z) (zs C n)), W (zdt n C (lot (nu z) (zs C n))))
  else (nu (nu (nu z)), zdt n C (lot (nu z) (zs C n)), zdw u (lot (nu (nu (nu z))) un))
theorem zdt_ok {n : Nat} {C : Nat → Int} {L : Int} (h : L < zs C n) (hn : 1 ≤ n) : zdt n C L < n ∧ L < zs C (zdt n C L + 1) ∧ ∀ j, j < zdt n C L → ¬ L < zs C (j + 1) := by
  unfold zdt
  cases hz : zf (fun t => decide (L < zs C (t + 1))) n 0 with
  | none =>
    have := zf_none.mp hz (n - 1) (by omega) (by omega)
    rw [show n - 1 + 1 = n by omega] at this
    exact absurd h (of_decide_eq_false this)
  | some t =>
    obtain ⟨a1, a2, a3, a4⟩ := zf_some hz
    exact ⟨by show t < n; omega, of_decide_eq_true a3, fun j hj => of_decide_eq_false (a4 j (by omega) hj)⟩
theorem zdt_is {n t : Nat} {C : Nat → Int} {L : Int} (ht : t < n) (h1 : L < zs C (t + 1)) (h2 : ∀ j, j < t → ¬ L < zs C (j + 1)) : zdt n C L = t := by
  unfold zdt
  rw [zf_eq (i := t) (by omega) (by omega) (decide_eq_true h1) (fun j _ hj => decide_eq_false (h2 j hj))]
  rfl
theorem zpn_succ (u k : Nat) : zpn u (k + 1) = zpn u k + (if u.testBit k then 1 else 0) := rfl
theorem zpn_mono2 {u i j : Nat} (h : i ≤ j) : zpn u i ≤ zpn u j := by
  have := zpn_mono u (j - i) i
  rwa [show i + (j - i) = j by omega] at this
theorem zdw_is {u w : Nat} {p : Int} (hw : w < 12) (hu : u.testBit w = true) (hp : (zpn u w : Int) = p) : zdw u p = w := by
  unfold zdw
  rw [zf_eq (i := w) (by omega) (by omega) (by rw [hu, decide_eq_true hp]; rfl) (fun j _ hj => by
    cases hj' : u.testBit j with
    | false => rfl
    | true =>
      have h1 := zpn_succ u j
      rw [hj', if_pos rfl] at h1
      have h2 := zpn_mono2 (u := u) (by omega : j + 1 ≤ w)
      rw [decide_eq_false (by omega)]
      rfl)]
  rfl
/-- there is such a word -/
theorem zdw_ok {u : Nat} {p : Nat} (h : p < zpc u) : ∃ w, w < 12 ∧ u.testBit w = true ∧ zpn u w = p := by
  have : ∀ k, p < zpn u k → ∃ w, w < k ∧ u.testBit w = true ∧ zpn u w = p := by
    intro k
    induction k with
    | zero => intro h; unfold zpn at h; omega
    | succ k ih =>
      intro h
      by_cases e : p < zpn u k
      · obtain ⟨w, h1, h2, h3⟩ := ih e
        exact ⟨w, by omega, h2, h3⟩
      · rw [zpn_succ] at h
        by_cases hb : u.testBit k = true
        · rw [if_pos hb] at h
          exact ⟨k, by omega, hb, by omega⟩
        · rw [if_neg hb] at h
          omega
  exact this 12 h
theorem csum_c {V : sU} {T n : Nat} (h : Tk V T n) : ∃ r, f_106 T V = some r ∧ r.toInt = zs (gC V T) n := by
  obtain ⟨t1, t2, t3, t4, t5, t6, t7, t8, t9, t10, t11⟩ := h
  unfold f_106
  refine loop_ex (fun m (s : Int32 × Int32) => f_106_4 m T s.1 s.2 V) (fun k s => s.2 = Int32.ofNat k ∧ s.1.toInt = zs (gC V T) k) (fun o => ∃ r, o = some r ∧ r.toInt = zs (gC V T) n) n ?_ ?_ n 0 FU (0, 0) (by omega) (by unfold FU; omega) ⟨rfl, rfl⟩
  · rintro k ⟨s, c⟩ m hk ⟨rfl, hs⟩
    dsimp only at hs ⊢
    refine Or.inr ?_
    have sb : 0 ≤ zs (gC V T) k ∧ zs (gC V T) k ≤ 12 * 99 := zs_bd (by omega) (fun i hi => by have := t5 i (by omega); omega) (by omega)
    have bC := t5 k hk
    have cI : (V.1 (T + 4) k).toInt = gC V T k := rfl
    rw [f_106_4, t1, if_neg (fun q => by have := (ofNat_le (by omega) (by omega)).mp q; omega), iget_k t10 (by omega), ofNat_succ]
    refine ⟨(s + V.1 (T + 4) k, Int32.ofNat (k + 1)), ⟨rfl, ?_⟩, rfl⟩
    dsimp only
    unfold zs
    rw [a32 (by rw [hs, cI]; omega) (by rw [hs, cI]; omega), hs, cI]
  · rintro ⟨s, c⟩ m ⟨rfl, hs⟩
    dsimp only at hs ⊢
    rw [f_106_4, t1, if_pos ((ofNat_le (by omega) (by omega)).mpr (Nat.le_refl _))]
    exact ⟨s, rfl, hs⟩
theorem below_c {nu : Int32 → Int32} (hg : Nu nu) {V : sU} {a : Nat} {x : Int32} (hx : 0 < x.toInt) : ∃ r, f_64 a x V = some (r, sI V a 14 (nu (V.1 a 14))) ∧ r.toInt = lot (nu (V.1 a 14)) x.toInt ∧ 0 ≤ r.toInt ∧ r.toInt < x.toInt := by
  have e0 : (0 : Int32).toInt = 0 := rfl
  obtain ⟨l1, l2, l3⟩ := lot_m (hg.2 (V.1 a 14)) hx
  have e : ((V.1 a 14) * 1103515245 + 12345 &&& 2147483647) = nu (V.1 a 14) := hg.1 _
  unfold f_64
  rw [if_neg (by rw [i32_le, e0]; omega), if_pos (by rw [i32_eq, e0]; omega), e, sI_at, shr16 (hg.2 _)]
  exact ⟨_, rfl, l1, by rw [l1]; exact l2, by rw [l1]; exact l3⟩
theorem truth_c {V : sU} {a T n : Nat} {L : Int32} (htk : tk V a = T) (h : Tk V T n) (h1 : L.toInt < zs (gC V T) n) : f_65 a L V = some (Int32.ofNat (zdt n (gC V T) L.toInt)) := by
  obtain ⟨z1, z2, z3⟩ := zdt_ok h1 h.2.1
  obtain ⟨t1, t2, t3, t4, t5, t6, t7, t8, t9, t10, t11⟩ := h
  generalize ht : zdt n (gC V T) L.toInt = t at *
  unfold f_65
  refine loop_ex (fun m (s : Int32 × Int32) => f_65_4 m a L s.1 s.2 V) (fun k s => k ≤ t ∧ s.2 = Int32.ofNat k ∧ s.1.toInt = zs (gC V T) k) (fun o => o = some (Int32.ofNat t)) n ?_ ?_ n 0 FU (0, 0) (by omega) (by unfold FU; omega) ⟨by omega, rfl, rfl⟩
  · rintro k ⟨s, c⟩ m hk ⟨hkt, rfl, hs⟩
    dsimp only at hs ⊢
    have sb : 0 ≤ zs (gC V T) k ∧ zs (gC V T) k ≤ 12 * 99 := zs_bd (by omega) (fun i hi => by have := t5 i (by omega); omega) (by omega)
    have bC := t5 k hk
    have cI : (V.1 (T + 4) k).toInt = gC V T k := rfl
    have nx : (s + V.1 (T + 4) k).toInt = zs (gC V T) (k + 1) := by
      show _ = zs (gC V T) k + gC V T k
      rw [a32 (by rw [hs, cI]; omega) (by rw [hs, cI]; omega), hs, cI]
    rw [f_65_4, htk, t1, if_neg (fun q => by have := (ofNat_le (by omega) (by omega)).mp q; omega), iget_k t10 (by omega), ofNat_succ]
    by_cases e : k = t
    · subst e
      rw [if_neg (by rw [i32_le, nx]; omega)]
      exact Or.inl rfl
    · have := z3 k (by omega)
      rw [if_pos (by rw [i32_le, nx]; omega)]
      exact Or.inr ⟨(s + V.1 (T + 4) k, Int32.ofNat (k + 1)), ⟨by omega, rfl, nx⟩, rfl⟩
  · rintro ⟨s, c⟩ m ⟨hkt, _⟩
    omega
theorem heard_c {nu : Int32 → Int32} (hg : Nu nu) {V : sU} {a T n w : Nat} {W : Nat → Nat} (h : Rd V a T n W) (hw : w < 12) : ∃ V', f_66 a (Int32.ofNat w) V = some (Int32.ofNat (if V.1 a 11 = 0 then w else if lot (nu (V.1 a 14)) 100 < (V.1 a 13).toInt then w else zdw (zub W n) (lot (nu (nu (V.1 a 14))) (zpc (zub W n)))), V') ∧ Fr (fun x j => x = a ∧ j = 14) V V' ∧ V'.1 a 14 = (if V.1 a 11 = 0 then V.1 a 14 else if lot (nu (V.1 a 14)) 100 < (V.1 a 13).toInt then nu (V.1 a 14) else nu (nu (V.1 a 14))) := by
  have e100 : (100 : Int32).toInt = 100 := rfl
  have e12 : (12 : Int32).toInt = 12 := rfl
  have e0 : (0 : Int32).toInt = 0 := rfl
  have em1 : ((-1) : Int32).toInt = -1 := rfl
  obtain ⟨u0, u12, un⟩ := Rd_un h
  obtain ⟨ha, htk, hT, hW, hl, hwi, hbl, hcl⟩ := h
  have hq := zub_lt (W := W) (n := n) (fun i hi => hW.1 i hi)
  have pos : 1 ≤ zpc (zub W n) := zpc_pos (hW.1 0 (by have := hT.2.1; omega)) (zub_test.mpr ⟨0, by have := hT.2.1; omega, rfl⟩)
  unfold f_66
  by_cases hb : V.1 a 11 = 0
  · rw [if_pos hb, if_pos hb, if_pos hb]
    exact ⟨V, rfl, Fr.rf _ _, rfl⟩
  rw [if_neg hb, if_neg hb, if_neg hb]
  obtain ⟨r, r1, r2, r3, r4⟩ := below_c hg (V := V) (a := a) (x := 100) (by decide)
  rw [e100] at r2 r4
  rw [r1, Option.bind_some]
  dsimp only
  have f1 : Fr (fun x j => x = a ∧ j = 14) V (sI V a 14 (nu (V.1 a 14))) := Fr.sI (Fr.rf _ _) _ ⟨rfl, rfl⟩
  have g13 : (sI V a 14 (nu (V.1 a 14))).1 a 13 = V.1 a 13 := sI_nj (by omega)
  have g10 : (sI V a 14 (nu (V.1 a 14))).1 a 10 = V.1 a 10 := sI_nj (by omega)
  rw [g13]
  by_cases hc : lot (nu (V.1 a 14)) 100 < (V.1 a 13).toInt
  · rw [if_neg (by rw [i32_le, r2]; omega), if_pos hc, if_pos hc]
    exact ⟨_, rfl, f1, sI_at⟩
  · rw [if_pos (by rw [i32_le, r2]; omega), if_neg hc, if_neg hc, g10]
    obtain ⟨y, y1, y2, y3, y4⟩ := below_c hg (V := sI V a 14 (nu (V.1 a 14))) (a := a) (x := V.1 a 10) (by omega)
    rw [sI_at] at y1 y2
    rw [un] at y2 y4
    rw [y1, Option.bind_some]
    dsimp only
    have f2 : Fr (fun x j => x = a ∧ j = 14) V (sI (sI V a 14 (nu (V.1 a 14))) a 14 (nu (nu (V.1 a 14)))) := Fr.sI f1 _ ⟨rfl, rfl⟩
    generalize hZ : sI (sI V a 14 (nu (V.1 a 14))) a 14 (nu (nu (V.1 a 14))) = Z at *
    have z9 : Z.1 a 9 = Int32.ofNat (zub W n) := (f2.1 a 9 (by omega)).trans hW.2.2.1
    have z14 : Z.1 a 14 = nu (nu (V.1 a 14)) := by rw [← hZ, sI_at]
    rw [← y2]
    refine ⟨Z, ?_, f2, z14⟩
    obtain ⟨wd, w1, w2, w3⟩ := zdw_ok (u := zub W n) (p := y.toNatClampNeg) (by rw [clamp_int]; omega)
    have yk : (y.toNatClampNeg : Int) = y.toInt := by rw [clamp_int]; omega
    rw [zdw_is w1 w2 (by rw [w3]; exact yk)]
    refine loop_ex (fun m (s : Int32 × Int32) => f_66_33 m a (Int32.ofNat w) s.1 s.2 Z) (fun k s => k ≤ wd ∧ s.2 = Int32.ofNat k ∧ s.1.toInt = y.toInt - zpn (zub W n) k) (fun o => o = some (Int32.ofNat wd, Z)) 12 ?_ ?_ 12 0 FU (y, 0) (by omega) (by unfold FU; omega) ⟨by omega, rfl, by show y.toInt = y.toInt - (0 : Nat); omega⟩
    · rintro k ⟨s, c⟩ m hk ⟨hkw, rfl, hs⟩
      dsimp only at hs ⊢
      have zle := zpn_le (zub W n) k
      have zm := zpn_mono2 (u := zub W n) hkw
      rw [f_66_33, if_neg (by rw [i32_le, e12, ofNat_int (by omega)]; omega), f43_eq z9 hq hk]
      by_cases htb : (zub W n).testBit k = true
      · rw [if_pos htb, if_neg (by decide)]
        by_cases e : k = wd
        · subst e
          rw [if_pos (by rw [i32_eq, hs, e0]; omega)]
          exact Or.inl rfl
        · have h1 := zpn_succ (zub W n) k
          rw [htb, if_pos rfl] at h1
          have h2 := zpn_mono2 (u := zub W n) (by omega : k + 1 ≤ wd)
          rw [if_neg (by rw [i32_eq, hs, e0]; omega), ofNat_succ]
          refine Or.inr ⟨(s + -1, Int32.ofNat (k + 1)), ⟨by omega, rfl, ?_⟩, rfl⟩
          dsimp only
          rw [a32 (by rw [hs, em1]; omega) (by rw [hs, em1]; omega), hs, em1, h1]
          omega
      · rw [if_neg htb, if_pos rfl, ofNat_succ]
        have h1 := zpn_succ (zub W n) k
        rw [if_neg htb] at h1
        have hne : k ≠ wd := fun e => htb (by rw [e]; exact w2)
        refine Or.inr ⟨(s, Int32.ofNat (k + 1)), ⟨by omega, rfl, ?_⟩, rfl⟩
        dsimp only
        rw [hs, h1]
        omega
    · rintro ⟨s, c⟩ m ⟨hkw, _⟩
      omega
