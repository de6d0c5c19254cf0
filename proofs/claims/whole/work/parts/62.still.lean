/-! still, status -/
/-- whether a meaning fails: of the talk that it names -/
def zh (U : sU) (k : Nat) : Int := zfa U k (U.1 (45 + 5 * k) 3).toNatClampNeg (U.1 (5 + 5 * (U.1 (45 + 5 * k) 3).toNatClampNeg) 2).toNatClampNeg
theorem zh_eq {U : sU} {k t n : Nat} (h : MG U k t n) : zh U k = zfa U k t n := by
  have n12 := h.2.1.2.1.2.2.1
  have t8 := h.2.1.1
  have e : (U.1 (45 + 5 * k) 3).toNatClampNeg = t := by rw [h.2.2.2.1, ofNat_clamp (by omega)]
  unfold zh
  rw [e, h.2.1.2.1.1, ofNat_clamp (by omega)]
/-- the places below k where p holds, as bits -/
def zbs (p : Nat → Bool) : Nat → Nat
  | 0 => 0
  | k + 1 => if p k then zbs p k ||| 2 ^ k else zbs p k
theorem zbs_0 {p : Nat → Bool} : zbs p 0 = 0 := rfl
theorem zbs_y {p : Nat → Bool} {k : Nat} (h : p k = true) : zbs p (k + 1) = zbs p k ||| 2 ^ k := if_pos h
theorem zbs_n {p : Nat → Bool} {k : Nat} (h : p k = false) : zbs p (k + 1) = zbs p k := by
  show (if p k then _ else _) = _
  rw [h, if_neg Bool.false_ne_true]
theorem zbs_lt {p : Nat → Bool} : ∀ {n : Nat}, n ≤ 12 → zbs p n < 4096 := by
  intro n
  induction n with
  | zero => intro _; exact (by decide : 0 < 4096)
  | succ n ih =>
    intro h
    unfold zbs
    split
    · exact Nat.or_lt_two_pow (n := 12) (ih (by omega)) (Nat.pow_lt_pow_right (by decide) (by omega))
    · exact ih (by omega)
def hBits (U : sU) (nM : Nat) : Nat := zbs (fun k => decide (zh U k = -1)) nM
theorem still_c {U : sU} {nT nM : Nat} (h : InvN nT nM U) : ∃ V, f_165 U = some (Int32.ofNat (hBits U nM), V) ∧ Same U V := by
  have n12 := h.1.1.2.2.2.1
  have em1 : ((-1) : Int32).toInt = -1 := rfl
  unfold f_165 hBits
  refine loop_ex (fun m (s : Int32 × Int32 × sU) => f_165_4 m s.1 s.2.1 s.2.2) (fun i s => s.2.1 = Int32.ofNat i ∧ s.1 = Int32.ofNat (zbs (fun k => decide (zh U k = -1)) i) ∧ Same U s.2.2) (fun o => ∃ V, o = some (Int32.ofNat (zbs (fun k => decide (zh U k = -1)) nM), V) ∧ Same U V) nM ?_ ?_ nM 0 FU (0, 0, U) (by omega) (by unfold FU; omega) ⟨rfl, rfl, Same.rf U⟩
  · rintro i ⟨b, c, V⟩ m hi ⟨rfl, rfl, hS⟩
    dsimp only at hS ⊢
    refine Or.inr ?_
    have hV := InvN_same hS h
    have c3 : V.1 2 3 = Int32.ofNat nM := hV.1.1.2.1
    have ei : (Int32.ofNat i).toInt = i := ofNat_int (by omega)
    obtain ⟨t, n, Y, ht, o1, o2, hM, ex⟩ := open_mg hV (x := Int32.ofNat i) (by omega)
    rw [ofNat_clamp (by omega)] at o2 hM
    have t8 := hM.2.1.1
    obtain ⟨r, r1, r2⟩ := verdict_c t8 o2
    have hMU : MG U i t n := by
      obtain ⟨t', n', _, g⟩ := MG_of h hi
      have g2 := MG_same g hS
      have et : t' = t := by
        have := congrArg Int32.toNatClampNeg (g2.2.2.1.symm.trans hM.2.2.1)
        rwa [ofNat_clamp (by have := g2.2.1.1; omega), ofNat_clamp (by omega)] at this
      subst et
      have en : n' = n := by
        have := congrArg Int32.toNatClampNeg (g2.2.1.2.2.1.symm.trans hM.2.1.2.2.1)
        rwa [ofNat_clamp (by have := g2.2.1.2.1.2.2.1; omega), ofNat_clamp (by have := hM.2.1.2.1.2.2.1; omega)] at this
      subst en
      exact g
    have ev : r.toInt = zh U i := by rw [r2, zfa_same hS (by omega) t8, zh_eq hMU]
    rw [f_165_4, c3, if_neg (fun q => by have := (ofNat_le (by omega) (by omega)).mp q; omega), o1, Option.bind_some]
    dsimp only
    rw [if_neg (by decide), r1, Option.bind_some, shl_k (by omega), ofNat_succ, ← or_ofNat]
    by_cases e : zh U i = -1
    · rw [if_pos (by rw [i32_eq, em1, ev]; exact e)]
      exact ⟨(Int32.ofNat (zbs (fun k => decide (zh U k = -1)) i ||| 2 ^ i), Int32.ofNat (i + 1), Y), ⟨rfl, by dsimp only; rw [zbs_y (decide_eq_true e)], hS.tr o2.1⟩, rfl⟩
    · rw [if_neg (by rw [i32_eq, em1, ev]; exact e)]
      exact ⟨(Int32.ofNat (zbs (fun k => decide (zh U k = -1)) i), Int32.ofNat (i + 1), Y), ⟨rfl, by dsimp only; rw [zbs_n (decide_eq_false e)], hS.tr o2.1⟩, rfl⟩
  · rintro ⟨b, c, V⟩ m ⟨rfl, rfl, hS⟩
    dsimp only at hS ⊢
    have c3 : V.1 2 3 = Int32.ofNat nM := (InvN_same hS h).1.1.2.1
    rw [f_165_4, c3, if_pos ((ofNat_le (by omega) (by omega)).mpr (Nat.le_refl _))]
    exact ⟨V, rfl, hS⟩
theorem zh_same {U V : sU} {k t n : Nat} (h : MG U k t n) (s : Same U V) : zh V k = zh U k := by
  rw [zh_eq h, zh_eq (MG_same h s), zfa_same s h.1 h.2.1.1]
theorem still_m {U : sU} {nT nM : Nat} (h : InvN nT nM U) : ∃ V, f_268 U = some (Int32.ofNat (hBits U nM), V) ∧ Same U V := by
  have n12 := h.1.1.2.2.2.1
  have em1 : ((-1) : Int32).toInt = -1 := rfl
  unfold f_268 hBits
  refine loop_ex (fun m (s : Int32 × Int32 × sU) => f_268_4 m s.1 s.2.1 s.2.2) (fun i s => s.2.1 = Int32.ofNat i ∧ s.1 = Int32.ofNat (zbs (fun k => decide (zh U k = -1)) i) ∧ Same U s.2.2) (fun o => ∃ V, o = some (Int32.ofNat (zbs (fun k => decide (zh U k = -1)) nM), V) ∧ Same U V) nM ?_ ?_ nM 0 FU (0, 0, U) (by omega) (by unfold FU; omega) ⟨rfl, rfl, Same.rf U⟩
  · rintro i ⟨b, c, V⟩ m hi ⟨rfl, rfl, hS⟩
    dsimp only at hS ⊢
    refine Or.inr ?_
    have hV := InvN_same hS h
    have c3 : V.1 280 1 = Int32.ofNat nM := hV.1.2.2
    have ei : (Int32.ofNat i).toInt = i := ofNat_int (by omega)
    obtain ⟨t, n, _, hMU⟩ := MG_of h hi
    obtain ⟨r, Y, r1, r2, r3⟩ := fails_m (MG_same hMU hS) ei
    have ev : r.toInt = zh U i := by rw [r3, zfa_same hS hMU.1 hMU.2.1.1, zh_eq hMU]
    rw [f_268_4, c3, if_neg (fun q => by have := (ofNat_le (by omega) (by omega)).mp q; omega), r1, Option.bind_some]
    dsimp only
    rw [shl_k (by omega), ofNat_succ, ← or_ofNat]
    by_cases e : zh U i = -1
    · rw [if_pos (by rw [i32_eq, em1, ev]; exact e)]
      exact ⟨(Int32.ofNat (zbs (fun k => decide (zh U k = -1)) i ||| 2 ^ i), Int32.ofNat (i + 1), Y), ⟨rfl, by dsimp only; rw [zbs_y (decide_eq_true e)], hS.tr r2⟩, rfl⟩
    · rw [if_neg (by rw [i32_eq, em1, ev]; exact e)]
      exact ⟨(Int32.ofNat (zbs (fun k => decide (zh U k = -1)) i), Int32.ofNat (i + 1), Y), ⟨rfl, by dsimp only; rw [zbs_n (decide_eq_false e)], hS.tr r2⟩, rfl⟩
  · rintro ⟨b, c, V⟩ m ⟨rfl, rfl, hS⟩
    dsimp only at hS ⊢
    have c3 : V.1 280 1 = Int32.ofNat nM := (InvN_same hS h).1.2.2
    rw [f_268_4, c3, if_pos ((ofNat_le (by omega) (by omega)).mpr (Nat.le_refl _))]
    exact ⟨V, rfl, hS⟩
theorem hBits_same {U V : sU} {nT nM : Nat} (h : InvN nT nM U) (s : Same U V) : hBits V nM = hBits U nM := by
  unfold hBits
  have : ∀ i, i ≤ nM → zbs (fun k => decide (zh V k = -1)) i = zbs (fun k => decide (zh U k = -1)) i := by
    intro i
    induction i with
    | zero => intro _; rw [zbs_0, zbs_0]
    | succ i ih =>
      intro hi
      obtain ⟨t, n, _, hM⟩ := MG_of h (by omega : i < nM)
      unfold zbs
      rw [ih (by omega), zh_same hM s]
  exact this nM (Nat.le_refl _)
theorem st_still {U : sU} (h : Inv U) : Two (f_150 U) f_268 := by
  have h0 := h
  obtain ⟨nT, nM, h⟩ := h
  have n12 := h.1.1.2.2.2.1
  have bd : hBits U nM < 4096 := zbs_lt n12
  refine two_i h0 (v := (hBits U nM : Nat)) ?_ ?_
  · obtain ⟨V, v1, v2⟩ := still_c h
    unfold f_150
    rw [v1]
    exact ⟨_, V, rfl, v2, ofNat_int (by omega)⟩
  · intro Y hY
    obtain ⟨Z, z1, z2⟩ := still_m (InvN_same hY h)
    rw [z1, hBits_same h hY]
    exact ⟨_, Z, rfl, z2, ofNat_int (by omega)⟩
theorem st_status {U : sU} (h : Inv U) (x : Int32) : Two (f_156 x U) (f_281 x) := by
  have h0 := h
  have e10 : (10 : Int32).toInt = 10 := rfl
  have e11 : (11 : Int32).toInt = 11 := rfl
  have e17 : (17 : Int32).toInt = 17 := rfl
  obtain ⟨nT, nM, h⟩ := h
  have n12 := h.1.1.2.2.2.1
  have bd : hBits U nM < 4096 := zbs_lt n12
  have mid : Two (f_156_24 x U) (f_281_22 x) := by
    unfold f_156_24
    by_cases c0 : x = 0
    · rw [if_pos c0]
      refine ⟨_, U, U, rfl, ?_, h0⟩
      unfold f_281_22
      rw [if_pos c0, h.1.2.1, h.1.1.1]
    rw [if_neg c0]
    by_cases c1 : x = 1
    · rw [if_pos c1]
      refine ⟨_, U, U, rfl, ?_, h0⟩
      unfold f_281_22
      rw [if_neg c0, if_pos c1, h.1.2.2, h.1.1.2.1]
    rw [if_neg c1]
    by_cases c2 : x = 2
    · rw [if_pos c2]
      have pl := zpc_le (hBits U nM)
      refine two_i h0 (v := (zpc (hBits U nM) : Nat)) ?_ ?_
      · obtain ⟨V, v1, v2⟩ := still_c h
        rw [v1, Option.bind_some]
        refine ⟨_, V, rfl, v2, ?_⟩
        dsimp only
        rw [f282_eq bd, ofNat_int (by omega)]
      · intro Y hY
        obtain ⟨Z, z1, z2⟩ := still_m (InvN_same hY h)
        unfold f_281_22
        rw [if_neg c0, if_neg c1, if_pos c2, z1, hBits_same h hY, Option.bind_some]
        dsimp only
        rw [f214_eq bd, Option.bind_some]
        exact ⟨_, Z, rfl, z2, ofNat_int (by omega)⟩
    rw [if_neg c2]
    by_cases c3 : x = 3
    · rw [if_pos c3]
      refine ⟨_, U, U, rfl, ?_, h0⟩
      unfold f_281_22
      rw [if_neg c0, if_neg c1, if_neg c2, if_pos c3, h.2.2.2.2.1.1]
    · rw [if_neg c3]
      refine ⟨_, U, U, rfl, ?_, h0⟩
      unfold f_281_22
      rw [if_neg c0, if_neg c1, if_neg c2, if_neg c3]
  by_cases a : x ≤ 10
  · have e1 : f_156 x U = f_156_24 x U := if_pos a
    have e2 : f_281 x = f_281_22 x := by
      funext V
      unfold f_281
      rw [i32_le, e10] at a
      rw [if_pos (by rw [i32_lt, e11]; omega)]
    rw [e1, e2]
    exact mid
  by_cases b : 17 < x
  · have e1 : f_156 x U = f_156_24 x U := by unfold f_156; rw [if_neg a, if_pos b]
    have e2 : f_281 x = f_281_22 x := by
      funext V
      unfold f_281
      rw [i32_le, e10] at a
      rw [if_neg (by rw [i32_lt, e11]; omega), if_pos b]
    rw [e1, e2]
    exact mid
  · have a' := a
    have b' := b
    rw [i32_le, e10] at a
    rw [i32_lt, e17] at b
    have ex : (x - 10).toInt = x.toInt - 10 := by rw [s32 (by rw [e10]; omega) (by rw [e10]; omega), e10]
    have hib : ib (x - 10) 8 := ib_int.mpr (by omega)
    have hc : (x - 10).toNatClampNeg < 8 := by rw [clamp_int]; omega
    refine ⟨U.1 281 (x - 10).toNatClampNeg, U, U, ?_, ?_, h0⟩
    · unfold f_156 iget
      rw [if_neg a', if_neg b', l_209, if_pos hib, h.2.2.1 _ hc]
    · unfold f_281
      rw [if_neg (by rw [i32_lt, e11]; omega), if_neg b', if_pos hib]
