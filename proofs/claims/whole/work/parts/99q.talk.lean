/-! talk: the reference's call -/
def zB (x : Int32) (U : sU) : sU := sI (sI (sI (sI U 280 25 (64 * x)) 280 26 0) 280 27 ((sI (sI U 280 25 (64 * x)) 280 26 0).1 284 x.toNatClampNeg)) 280 2 ((-1))
def zS (V : sU) (t : Nat) : sU := sI (sI (sI (sI (sI (sI (sI (sI (sI V 280 0 (Int32.ofNat t + 1)) 288 t (V.1 280 31)) 289 t (V.1 280 32)) 290 t (V.1 280 33)) 291 t (V.1 280 34)) 292 t (V.1 280 35)) 293 t (V.1 280 36)) 294 t (V.1 280 37)) 295 t (V.1 280 38)
theorem zB_fr (x : Int32) (U : sU) : (zB x U).2 = U.2 ∧ (∀ b j, ¬ (b = 280 ∧ (j = 2 ∨ 25 ≤ j ∧ j ≤ 27)) → (zB x U).1 b j = U.1 b j) ∧ (zB x U).1 280 25 = 64 * x ∧ (zB x U).1 280 26 = 0 ∧ (zB x U).1 280 27 = U.1 284 x.toNatClampNeg ∧ (zB x U).1 280 2 = -1 := by
  unfold zB
  refine ⟨rfl, fun b j h => ?_, ?_, ?_, ?_, ?_⟩
  · by_cases e : b = 280
    · subst e
      simp (disch := omega) only [sI_ne, sI_nj, sI_at]
    · simp (disch := omega) only [sI_ne, sI_nj, sI_at]
  all_goals simp (disch := omega) only [sI_ne, sI_nj, sI_at]
theorem zS_fr (V : sU) (t : Nat) : (zS V t).2 = V.2 ∧ (∀ b j, ¬ (b = 280 ∧ j = 0) → ¬ (288 ≤ b ∧ b < 296 ∧ j = t) → (zS V t).1 b j = V.1 b j) ∧ (zS V t).1 280 0 = Int32.ofNat (t + 1) ∧ ∀ f, f < 8 → (zS V t).1 (288 + f) t = V.1 280 (31 + f) := by
  unfold zS
  refine ⟨rfl, fun b j h1 h2 => ?_, ?_, fun f hf => ?_⟩
  · by_cases e : j = t
    · subst e
      by_cases e2 : b = 280
      · subst e2
        simp (disch := omega) only [sI_ne, sI_nj, sI_at]
      · simp (disch := omega) only [sI_ne, sI_nj, sI_at]
    · have q : ∀ (W : sU) (a : Nat) (v : Int32), (sI W a t v).1 b j = W.1 b j := by
        intro W a v
        by_cases e2 : b = a
        · subst e2; exact sI_nj e
        · exact sI_ne e2
      rw [q, q, q, q, q, q, q, q]
      by_cases e2 : b = 280
      · subst e2; exact sI_nj (by omega)
      · exact sI_ne e2
  · simp (disch := omega) only [sI_ne, sI_nj, sI_at]
    exact ofNat_succ t
  · obtain rfl | rfl | rfl | rfl | rfl | rfl | rfl | rfl : f = 0 ∨ f = 1 ∨ f = 2 ∨ f = 3 ∨ f = 4 ∨ f = 5 ∨ f = 6 ∨ f = 7 := by omega
    all_goals simp (disch := omega) only [sI_ne, sI_nj, sI_at]
theorem f204_bad {U V : sU} {x : Int32} (h : f_189 x U = some 0) (hx : ib x 8) (hz : f_203 (zB x U) = some (0, V)) : f_204 x U = Option.bind (f_174 ((-6)) (sI V 280 2 (V.1 280 30))) fun q22 => some (q22.1, q22.2) := by
  unfold f_204
  rw [h, Option.bind_some, if_pos rfl, if_pos hx]
  change Option.bind (f_203 (zB x U)) _ = _
  rw [hz, Option.bind_some]
  dsimp only
  rw [if_pos rfl]
theorem f204_full {U V : sU} {x : Int32} (h : f_189 x U = some 0) (hx : ib x 8) (hz : f_203 (zB x U) = some (1, V)) (h8 : V.1 280 0 = 8) : f_204 x U = Option.bind (f_174 ((-7)) V) fun q21 => some (q21.1, q21.2) := by
  unfold f_204
  rw [h, Option.bind_some, if_pos rfl, if_pos hx]
  change Option.bind (f_203 (zB x U)) _ = _
  rw [hz, Option.bind_some]
  dsimp only
  rw [if_neg n10, if_pos h8]
theorem f204_new {U V : sU} {x : Int32} {t : Nat} (h : f_189 x U = some 0) (hx : ib x 8) (hz : f_203 (zB x U) = some (1, V)) (ht : V.1 280 0 = Int32.ofNat t) (h8 : t < 8) : f_204 x U = f_204_177 FU (Int32.ofNat t) 0 (zS V t) := by
  unfold f_204
  rw [h, Option.bind_some, if_pos rfl, if_pos hx]
  change Option.bind (f_203 (zB x U)) _ = _
  rw [hz, Option.bind_some]
  have i8 : ib (V.1 280 0) 8 := by rw [ht]; exact ib_ofNat (by omega) h8
  have n8 : ¬ V.1 280 0 = 8 := by rw [ht]; intro q; have e8 : (8 : Int32).toInt = 8 := rfl; have := congrArg Int32.toInt q; rw [ofNat_int (by omega), e8] at this; omega
  have cl : (V.1 280 0).toNatClampNeg = t := by rw [ht, ofNat_clamp (by omega)]
  dsimp only
  rw [if_neg n10, if_neg n8, if_pos i8, if_pos i8, if_pos i8, if_pos i8, if_pos i8, if_pos i8, if_pos i8, if_pos i8, cl]
  unfold zS
  simp (disch := omega) only [sI_ne, sI_nj, sI_at]
  rw [ht]
theorem put_new {V : sU} {t n : Nat} (ht : t < 8) (hn : n ≤ 12) (h31 : V.1 280 31 = Int32.ofNat n) : ∃ W, f_204_177 FU (Int32.ofNat t) 0 V = some (Int32.ofNat t, W) ∧ W.2 = V.2 ∧ (∀ i, i < n → W.1 296 (12 * t + i) = V.1 303 i ∧ W.1 297 (12 * t + i) = V.1 304 i) ∧ ∀ b j, ¬ ((b = 296 ∨ b = 297) ∧ 12 * t ≤ j ∧ j < 12 * t + 12) → W.1 b j = V.1 b j := by
  refine loop_ex (fun f (z : Int32 × sU) => f_204_177 f (Int32.ofNat t) z.1 z.2) (fun k z => z.1 = Int32.ofNat k ∧ z.2.2 = V.2 ∧ (∀ i, i < k → z.2.1 296 (12 * t + i) = V.1 303 i ∧ z.2.1 297 (12 * t + i) = V.1 304 i) ∧ ∀ b j, ¬ ((b = 296 ∨ b = 297) ∧ 12 * t ≤ j ∧ j < 12 * t + 12) → z.2.1 b j = V.1 b j) (fun o => ∃ W, o = some (Int32.ofNat t, W) ∧ W.2 = V.2 ∧ (∀ i, i < n → W.1 296 (12 * t + i) = V.1 303 i ∧ W.1 297 (12 * t + i) = V.1 304 i) ∧ ∀ b j, ¬ ((b = 296 ∨ b = 297) ∧ 12 * t ≤ j ∧ j < 12 * t + 12) → W.1 b j = V.1 b j) n ?_ ?_ n 0 FU (0, V) (by omega) (by unfold FU; omega) ⟨rfl, rfl, fun i hi => by omega, fun _ _ _ => rfl⟩
  · rintro k ⟨c, Z⟩ f hk ⟨rfl, z1, z2, z3⟩
    dsimp only at z1 z2 z3 ⊢
    refine Or.inr ?_
    obtain ⟨m1, m2⟩ := mul12 (s := Int32.ofNat t) (i := Int32.ofNat k) (n := t) (m := k) (ofNat_int (by omega)) (ofNat_int (by omega)) (by omega) (by omega)
    have i12 : ib (Int32.ofNat k) 12 := ib_ofNat (by omega) (by omega)
    have i96 : ib (12 * Int32.ofNat t + Int32.ofNat k) 96 := ib_int.mpr (by rw [m1]; omega)
    rw [f_204_177, z3 280 31 (by omega), h31, if_neg (fun q => by have := (ofNat_le (by omega) (by omega)).mp q; omega), if_pos i12, if_pos i96, if_pos i12, if_pos i96, m2, ofNat_clamp (by omega), ofNat_succ, sI_ne (by omega), z3 303 _ (by omega), z3 304 _ (by omega)]
    refine ⟨(Int32.ofNat (k + 1), sI (sI Z 296 (12 * t + k) (V.1 303 k)) 297 (12 * t + k) (V.1 304 k)), ⟨rfl, z1, fun i hi => ?_, fun b j q => ?_⟩, rfl⟩
    · dsimp only
      by_cases e : i = k
      · subst e
        exact ⟨by rw [sI_ne (by omega), sI_at], sI_at⟩
      · rw [sI_ne (by omega), sI_nj (by omega), sI_nj (by omega), sI_ne (by omega)]
        exact z2 i (by omega)
    · dsimp only
      rw [← z3 b j q]
      by_cases e1 : b = 297
      · subst e1; rw [sI_nj (by omega), sI_ne (by omega)]
      · rw [sI_ne e1]
        by_cases e2 : b = 296
        · subst e2; rw [sI_nj (by omega)]
        · rw [sI_ne e2]
  · rintro ⟨c, Z⟩ f ⟨rfl, z1, z2, z3⟩
    dsimp only at z1 z2 z3 ⊢
    rw [f_204_177, z3 280 31 (by omega), h31, if_pos ((ofNat_le (by omega) (by omega)).mpr (by omega))]
    exact ⟨Z, rfl, z1, z2, z3⟩
theorem f204_flaw {U : sU} {x q : Int32} (h : f_189 x U = some q) (hq : ¬ q = 0) : f_204 x U = Option.bind (f_174 q U) fun q23 => some (q23.1, q23.2) := by
  unfold f_204
  rw [h, Option.bind_some, if_neg hq]
theorem ref_new {U Uc V : sU} {nT nM : Nat} {w : Int32} (hw : 1 ≤ w.toInt ∧ w.toInt ≤ 7) (h : InvN nT nM U) (c : ∀ a j, ¬ (210 ≤ a ∧ a < 218) → ¬ (a = 0 ∧ j = 5) → Uc.1 a j = U.1 a j) (cl : Uc.2 = U.2) (v : V.2 = Uc.2) (v2 : ∀ a j, ¬ (a = 280 ∧ (j = 2 ∨ 25 ≤ j ∧ j < 39)) → a ≠ 303 → a ≠ 304 → V.1 a j = (f_157 w Uc).2.1 a j) (hf : V.1 280 2 = Uc.1 0 5) : InvN nT nM (sI V 281 w.toNatClampNeg (V.1 281 w.toNatClampNeg + 1)) := by
  rw [f157_eq hw] at v2
  dsimp only at v2
  have hk : w.toNatClampNeg < 8 := by rw [clamp_int]; omega
  generalize w.toNatClampNeg = k at hk v2 ⊢
  refine InvN_fe h (fun a j q => ?_) (by show V.2.1 = U.2.1; rw [v, cl]) (fun i hi => ?_) ?_
  · rw [sI_ne (by omega), v2 a j (by omega) (by omega) (by omega), sI_ne (by omega)]
    exact c a j (by omega) (by omega)
  · have r := h.2.2.1 i hi
    by_cases e : i = k
    · subst e
      rw [sI_at, sI_ne (by omega), v2 281 _ (by omega) (by omega) (by omega), v2 209 _ (by omega) (by omega) (by omega), sI_ne (by omega), sI_at, c 281 _ (by omega) (by omega), c 209 _ (by omega) (by omega), r]
    · rw [sI_nj e, sI_ne (by omega), v2 281 _ (by omega) (by omega) (by omega), v2 209 _ (by omega) (by omega) (by omega), sI_ne (by omega), sI_nj e, c 281 _ (by omega) (by omega), c 209 _ (by omega) (by omega), r]
  · rw [sI_ne (by omega), sI_ne (by omega), v2 0 5 (by omega) (by omega) (by omega), sI_ne (by omega)]
    exact hf
