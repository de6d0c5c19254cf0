/-! the reference: a talk in its arrays, least() -/
def MT (M : sU) (t n : Nat) : Prop := t < 8 ∧ Tk M (5 + 5 * t) n ∧ M.1 288 t = Int32.ofNat n ∧ (M.1 289 t = M.1 (5 + 5 * t) 3 ∧ -500 ≤ (M.1 (5 + 5 * t) 3).toInt ∧ (M.1 (5 + 5 * t) 3).toInt ≤ 500) ∧ (M.1 290 t = M.1 (5 + 5 * t) 4 ∧ -500 ≤ (M.1 (5 + 5 * t) 4).toInt ∧ (M.1 (5 + 5 * t) 4).toInt ≤ 500) ∧ M.1 291 t = M.1 (5 + 5 * t) 5 ∧ M.1 292 t = M.1 (5 + 5 * t) 6 ∧ (M.1 293 t = M.1 (5 + 5 * t) 7 ∧ (M.1 (5 + 5 * t) 7 = 0 ∨ M.1 (5 + 5 * t) 7 = 1)) ∧ (M.1 294 t = M.1 (5 + 5 * t) 8 ∧ -500 ≤ (M.1 (5 + 5 * t) 8).toInt ∧ (M.1 (5 + 5 * t) 8).toInt ≤ 500) ∧ (M.1 295 t = M.1 (5 + 5 * t) 9 ∧ -500 ≤ (M.1 (5 + 5 * t) 9).toInt ∧ (M.1 (5 + 5 * t) 9).toInt ≤ 500) ∧ (∀ i, i < n → M.1 296 (12 * t + i) = M.1 (5 + 5 * t + 2) i ∧ M.1 297 (12 * t + i) = M.1 (5 + 5 * t + 4) i)
theorem MT_of {U : sU} {nT nM t : Nat} (h : InvN nT nM U) (ht : t < nT) : ∃ n, MT U t n := by
  obtain ⟨n, n1, n12, q0, q0', q1, q2, q3, q4, q5, q6, q7, qx, qi⟩ := tk_facts h ht
  have n8 := h.1.1.2.2.1
  obtain ⟨m, hT⟩ := Tk_of h ht
  have e : m = n := by
    have := hT.1.symm.trans q0
    have := congrArg Int32.toNatClampNeg this
    rwa [ofNat_clamp (by have := hT.2.2.1; omega), ofNat_clamp (by omega)] at this
  subst e
  refine ⟨m, by omega, hT, q0', q1, q2, q3.1, q4.1, q5, q6, q7, ?_⟩
  intro i hi
  have := qx i hi
  rw [show 5 + 5 * t + 2 = 7 + 5 * t by omega, show 5 + 5 * t + 4 = 9 + 5 * t by omega]
  exact ⟨this.1, this.2.2.2.1⟩
theorem MT_same {U V : sU} {t n : Nat} (h : MT U t n) (k : Same U V) : MT V t n := by
  obtain ⟨t8, hT, h1, h2, h3, h4, h5, h6, h7, h8, h9⟩ := h
  have e : ∀ x j, 288 ≤ x → x < 298 → V.1 x j = U.1 x j := fun x j q r => k.1 x j (by unfold scr; omega)
  refine ⟨t8, Tk_same hT (fun x j hx => k.lo hx), ?_, ?_, ?_, ?_, ?_, ?_, ?_, ?_, ?_⟩
  · rw [e 288 t (by omega) (by omega)]; exact h1
  · rw [e 289 t (by omega) (by omega), k.lo (by omega)]; exact h2
  · rw [e 290 t (by omega) (by omega), k.lo (by omega)]; exact h3
  · rw [e 291 t (by omega) (by omega), k.lo (by omega)]; exact h4
  · rw [e 292 t (by omega) (by omega), k.lo (by omega)]; exact h5
  · rw [e 293 t (by omega) (by omega), k.lo (by omega)]; exact h6
  · rw [e 294 t (by omega) (by omega), k.lo (by omega)]; exact h7
  · rw [e 295 t (by omega) (by omega), k.lo (by omega)]; exact h8
  · intro i hi
    rw [e 296 _ (by omega) (by omega), e 297 _ (by omega) (by omega), k.lo (by omega), k.lo (by omega)]
    exact h9 i hi
theorem least_m {M : sU} {t n : Nat} (h : MT M t n) {x b : Int32} (hx : x.toInt = t) (hb : -600 ≤ b.toInt ∧ b.toInt ≤ 600) {wt : Nat → Int} (hw : ∀ i, i < n → (M.2.1 305 i).toInt = wt i ∧ 0 ≤ wt i ∧ wt i ≤ 1000000) (hp : 0 < zs wt n) : ∃ r, f_209 x b M = some r ∧ r.toInt = zlst (M.1 (5 + 5 * t) 6) n wt (fun i => gX M (5 + 5 * t) i + b.toInt) := by
  obtain ⟨t8, ⟨t1, t2, t3, t4, t5, t6, t7, _, t9, t10, t11⟩, h1, h2, h3, h4, h5, h6, h7, h8, h9⟩ := h
  have ex : x.toNatClampNeg = t := by rw [clamp_int]; omega
  have i8 : ib x 8 := ib_int.mpr (by omega)
  have e2 : (2 : Int64).toInt = 2 := rfl
  have xI : ∀ i, i < n → (M.1 296 (12 * t + i) + b).toInt = gX M (5 + 5 * t) i + b.toInt ∧ -600 ≤ gX M (5 + 5 * t) i + b.toInt ∧ gX M (5 + 5 * t) i + b.toInt ≤ 1599 := by
    intro i hi
    have q := t5 i hi
    have e : (M.1 296 (12 * t + i)).toInt = gX M (5 + 5 * t) i := by rw [(h9 i hi).1]; rfl
    rw [a32 (by rw [e]; omega) (by rw [e]; omega), e]
    omega
  have sw : ∀ k, k ≤ n → 0 ≤ zs wt k ∧ zs wt k ≤ 12 * 1000000 := fun k hk => zs_bd (by omega) (fun i hi => (hw i (by omega)).2) (by omega)
  have pw : ∀ i, i < n → -(1000000 * 1599) ≤ wt i * (gX M (5 + 5 * t) i + b.toInt) ∧ wt i * (gX M (5 + 5 * t) i + b.toInt) ≤ 1000000 * 1599 := fun i hi => by
    have q1 := hw i hi
    have q2 := xI i hi
    exact pb (by omega) (by omega) (by omega) (by omega)
  have ss : ∀ k, k ≤ n → -(12 * (1000000 * 1599)) ≤ zs (fun i => wt i * (gX M (5 + 5 * t) i + b.toInt)) k ∧ zs (fun i => wt i * (gX M (5 + 5 * t) i + b.toInt)) k ≤ 12 * (1000000 * 1599) := fun k hk => zs_bs (by omega) (fun i hi => pw i (by omega)) (by omega)
  have i96 : ∀ i, i < n → ib (12 * x + Int32.ofNat i) 96 ∧ (12 * x + Int32.ofNat i).toNatClampNeg = 12 * t + i := by
    intro i hi
    obtain ⟨m1, m2⟩ := mul12 (s := x) (i := Int32.ofNat i) hx (ofNat_int (by omega)) (by omega) (by omega)
    exact ⟨ib_int.mpr (by omega), m2⟩
  unfold f_209
  refine loop_ex (fun m (s : Int64 × Int64 × Int32) => f_209_8 m x b s.1 s.2.1 s.2.2 M) (fun k s => s.2.2 = Int32.ofNat k ∧ s.1.toInt = zs wt k ∧ s.2.1.toInt = zs (fun i => wt i * (gX M (5 + 5 * t) i + b.toInt)) k) (fun o => ∃ r, o = some r ∧ r.toInt = zlst (M.1 (5 + 5 * t) 6) n wt (fun i => gX M (5 + 5 * t) i + b.toInt)) n ?_ ?_ n 0 FU (0, 0, 0) (by omega) (by unfold FU; omega) ⟨rfl, rfl, rfl⟩
  · rintro k ⟨al, su, c⟩ m hk ⟨rfl, hal, hsu⟩
    dsimp only at hal hsu ⊢
    obtain ⟨j1, j2⟩ := i96 k hk
    obtain ⟨x1, x2⟩ := xI k hk
    obtain ⟨w1, w2⟩ := hw k hk
    have pk := pw k hk
    have sk := sw k (by omega)
    have sk2 := ss k (by omega)
    have mI : (M.2.1 305 k * (M.1 296 (12 * t + k) + b).toInt64).toInt = wt k * (gX M (5 + 5 * t) k + b.toInt) := by rw [m64 (by rw [w64, w1, x1]; omega) (by rw [w64, w1, x1]; omega), w64, w1, x1]
    rw [f_209_8]
    simp only [ex, h1, if_pos i8]
    rw [if_neg (fun q => by have := (ofNat_le (by omega) (by omega)).mp q; omega), if_pos (ib_ofNat (by omega) (by omega)), if_pos (ib_ofNat (by omega) (by omega)), if_pos j1, j2, ofNat_clamp (by omega), ofNat_succ]
    refine Or.inr ⟨(al + M.2.1 305 k, su + M.2.1 305 k * (M.1 296 (12 * t + k) + b).toInt64, Int32.ofNat (k + 1)), ⟨rfl, ?_, ?_⟩, rfl⟩
    · dsimp only
      unfold zs
      rw [a64 (by rw [hal, w1]; omega) (by rw [hal, w1]; omega), hal, w1]
    · dsimp only
      unfold zs
      rw [a64 (by rw [hsu, mI]; omega) (by rw [hsu, mI]; omega), hsu, mI]
  · rintro ⟨al, su, c⟩ m ⟨rfl, hal, hsu⟩
    dsimp only at hal hsu ⊢
    have sk := sw n (by omega)
    have sk2 := ss n (by omega)
    have z0 : (0 : Int64).toInt = 0 := rfl
    rw [f_209_8]
    simp only [ex, h1, h5, if_pos i8]
    rw [if_pos ((ofNat_le (by omega) (by omega)).mpr (Nat.le_refl _))]
    unfold zlst
    by_cases hq : M.1 (5 + 5 * t) 6 = 0
    · rw [if_pos hq, if_pos hq, if_pos (by rw [i64_eq, z0]; omega)]
      obtain ⟨r, r1, r2⟩ := mean_m (a := al) (s := su) (U := M) (by omega) (by omega) (by omega)
      refine ⟨r, r1, ?_⟩
      rw [r2, hal, hsu]
    · rw [if_neg hq, if_neg hq]
      generalize hp2 : (fun k => decide (zs wt n ≤ 2 * zs wt (k + 1))) = p
      have hpk : ∀ k, p k = decide (zs wt n ≤ 2 * zs wt (k + 1)) := by intro k; rw [← hp2]
      have c0 : (0 : Int32).toNatClampNeg = 0 := rfl
      rw [c0]
      refine loop_ex (fun m (s : Int32 × Int64) => f_209_130 m x b al s.1 s.2 M) (fun k s => k < n ∧ s.1 = Int32.ofNat k ∧ s.2.toInt = zs wt (k + 1) ∧ ∀ j, 0 ≤ j → j < k → p j = false) (fun o => ∃ r, o = some r ∧ r.toInt = match zf p n 0 with | some t_1 => zc (gX M (5 + 5 * t) t_1 + b.toInt) | none => 0) n ?_ ?_ n 0 FU (0, M.2.1 305 0) (by omega) (by unfold FU; omega) ⟨by omega, rfl, ?_, fun j _ hj => by omega⟩
      · rintro k ⟨c, to⟩ m hk ⟨_, rfl, hto, hno⟩
        dsimp only at hto hno ⊢
        obtain ⟨j1, j2⟩ := i96 k hk
        obtain ⟨x1, x2⟩ := xI k hk
        have sk1 := sw (k + 1) (by omega)
        have q2 : (2 * to).toInt = 2 * zs wt (k + 1) := by rw [m64 (by rw [e2, hto]; omega) (by rw [e2, hto]; omega), e2, hto]
        rw [f_209_130]
        by_cases hle : zs wt n ≤ 2 * zs wt (k + 1)
        · rw [if_pos (by rw [cmp_ge, q2, hal]; exact hle), if_pos j1, j2]
          have hf : zf p n 0 = some k := zf_eq (by omega) (by omega) (by rw [hpk]; exact decide_eq_true hle) hno
          obtain ⟨r, r1, r2⟩ := f176_int (v := (M.1 296 (12 * t + k) + b).toInt64) (U := M)
          rw [hf]
          refine Or.inl ⟨r, r1, ?_⟩
          rw [r2, w64, x1]
        · have hk1 : k + 1 < n := by
            by_cases e : k + 1 < n
            · exact e
            · have : k + 1 = n := by omega
              rw [this] at hle
              omega
          obtain ⟨w1, w2⟩ := hw (k + 1) hk1
          rw [if_neg (by rw [cmp_ge, q2, hal]; exact hle), ofNat_succ, if_pos (ib_ofNat (by omega) (by omega)), ofNat_clamp (by omega)]
          refine Or.inr ⟨(Int32.ofNat (k + 1), to + M.2.1 305 (k + 1)), ⟨hk1, rfl, ?_, fun j _ hj => ?_⟩, rfl⟩
          · show _ = zs wt (k + 1) + wt (k + 1)
            dsimp only
            rw [a64 (by rw [hto, w1]; omega) (by rw [hto, w1]; omega), hto, w1]
          · by_cases e : j = k
            · subst e; rw [hpk]; exact decide_eq_false hle
            · exact hno j (by omega) (by omega)
      · rintro ⟨c, to⟩ m ⟨hlt, _⟩
        exact absurd hlt (Nat.lt_irrefl _)
      · have w1 := (hw 0 (by omega)).1
        show (M.2.1 305 0).toInt = 0 + wt 0
        rw [w1, Int.zero_add]
/-- the reference's weights lie in one row alone -/
def FrW (U V : sU) : Prop := V.1 = U.1 ∧ ∀ x j, x ≠ 305 → V.2.1 x j = U.2.1 x j
theorem FrW.same {U V : sU} (h : FrW U V) : Same U V := ⟨fun x j _ => by rw [h.1], fun x j q => h.2 x j (fun e => q (by unfold scr; omega))⟩
theorem FrW.sJ {U V : sU} (h : FrW U V) (i : Nat) (v : Int64) : FrW U (sJ V 305 i v) := ⟨h.1, fun x j hx => by rw [sJ_ne hx]; exact h.2 x j hx⟩
/-- doneAt(): by the chances of a set of truths -/
theorem doneAt_m {M : sU} {t n q : Nat} (h : MT M t n) {x b : Int32} (hx : x.toInt = t) (hb : -600 ≤ b.toInt ∧ b.toInt ≤ 600) (hq : q < 4096) (hne : ∃ i, i < n ∧ q.testBit i = true) : ∃ r V, f_210 x (Int32.ofNat q) b M = some (r, V) ∧ FrW M V ∧ r.toInt = zlst (M.1 (5 + 5 * t) 6) n (fun i => if q.testBit i then gC M (5 + 5 * t) i else 0) (fun i => gX M (5 + 5 * t) i + b.toInt) := by
  have h0 := h
  obtain ⟨t8, ⟨t1, t2, t3, t4, t5, t6, t7, _, t9, t10, t11⟩, h1, h2, h3, h4, h5, h6, h7, h8, h9⟩ := h
  have ex : x.toNatClampNeg = t := by rw [clamp_int]; omega
  have i8 : ib x 8 := ib_int.mpr (by omega)
  have i96 : ∀ i, i < n → ib (12 * x + Int32.ofNat i) 96 ∧ (12 * x + Int32.ofNat i).toNatClampNeg = 12 * t + i := by
    intro i hi
    obtain ⟨m1, m2⟩ := mul12 (s := x) (i := Int32.ofNat i) hx (ofNat_int (by omega)) (by omega) (by omega)
    exact ⟨ib_int.mpr (by omega), m2⟩
  unfold f_210
  refine loop_ex (fun m (s : Int32 × sU) => f_210_3 m x (Int32.ofNat q) b s.1 s.2) (fun k s => s.1 = Int32.ofNat k ∧ FrW M s.2 ∧ ∀ i, i < k → (s.2.2.1 305 i).toInt = if q.testBit i then gC M (5 + 5 * t) i else 0) (fun o => ∃ r V, o = some (r, V) ∧ FrW M V ∧ r.toInt = zlst (M.1 (5 + 5 * t) 6) n (fun i => if q.testBit i then gC M (5 + 5 * t) i else 0) (fun i => gX M (5 + 5 * t) i + b.toInt)) n ?_ ?_ n 0 FU (0, M) (by omega) (by unfold FU; omega) ⟨rfl, ⟨rfl, fun _ _ _ => rfl⟩, fun i hi => by omega⟩
  · rintro k ⟨c, Z⟩ m hk ⟨rfl, hF, hz⟩
    dsimp only at hF hz ⊢
    obtain ⟨j1, j2⟩ := i96 k hk
    have hbit := bit_at hq (by omega : k < 12)
    have eC : (Z.1 297 (12 * t + k)).toInt64.toInt = gC M (5 + 5 * t) k := by rw [w64, hF.1, (h9 k hk).2]; rfl
    rw [f_210_3, if_pos i8, ex, hF.1, h1, if_neg (fun g => by have := (ofNat_le (by omega) (by omega)).mp g; omega), ofNat_succ]
    refine Or.inr ?_
    by_cases e : q.testBit k = true
    · rw [if_pos (hbit.1.mpr e), if_pos j1, if_pos (ib_ofNat (by omega) (by omega)), j2, ofNat_clamp (by omega)]
      refine ⟨(Int32.ofNat (k + 1), sJ Z 305 k (M.1 297 (12 * t + k)).toInt64), ⟨rfl, hF.sJ _ _, fun i hi => ?_⟩, rfl⟩
      dsimp only
      by_cases e2 : i = k
      · subst e2
        rw [sJ_at, if_pos e, ← eC, hF.1]
      · rw [sJ_nj e2]; exact hz i (by omega)
    · rw [if_neg (fun g => e (hbit.1.mp g)), if_pos (ib_ofNat (by omega) (by omega)), ofNat_clamp (by omega)]
      refine ⟨(Int32.ofNat (k + 1), sJ Z 305 k 0), ⟨rfl, hF.sJ _ _, fun i hi => ?_⟩, rfl⟩
      dsimp only
      by_cases e2 : i = k
      · subst e2
        rw [sJ_at, if_neg e]
        rfl
      · rw [sJ_nj e2]; exact hz i (by omega)
  · rintro ⟨c, Z⟩ m ⟨rfl, hF, hz⟩
    dsimp only at hF hz ⊢
    rw [f_210_3, if_pos i8, ex, hF.1, h1, if_pos ((ofNat_le (by omega) (by omega)).mpr (Nat.le_refl _))]
    obtain ⟨j, hj, hjb⟩ := hne
    have nn : ∀ i, i < n → 0 ≤ (if q.testBit i then gC M (5 + 5 * t) i else 0) ∧ (if q.testBit i then gC M (5 + 5 * t) i else 0) ≤ 99 := by
      intro i hi
      have := t5 i hi
      split <;> omega
    have pos : 0 < zs (fun i => if q.testBit i then gC M (5 + 5 * t) i else 0) n := by
      have := zs_ge (f := fun i => if q.testBit i then gC M (5 + 5 * t) i else 0) (n := n) (j := j) (fun i hi => (nn i hi).1) hj
      rw [if_pos hjb] at this
      have := t5 j hj
      omega
    obtain ⟨r, r1, r2⟩ := least_m (MT_same h0 hF.same) (x := x) (b := b) hx hb (wt := fun i => if q.testBit i then gC M (5 + 5 * t) i else 0) (fun i hi => ⟨hz i hi, by have := nn i hi; omega⟩) pos
    rw [r1, Option.bind_some]
    refine ⟨r, Z, rfl, hF, ?_⟩
    rw [r2]
    have eX : gX Z (5 + 5 * t) = gX M (5 + 5 * t) := by funext i; unfold gX; rw [hF.1]
    rw [eX, hF.1]
