/-! talk: the letters laid out by the class -/
theorem f88_zT {U : sU} {s i L : Nat} (hs : s < 8) (h3 : U.1 (264 + 2 * s) 3 = Int32.ofNat L) (hL : L ≤ 64) (hi : i < 64) : f_88 (264 + 2 * s) (Int32.ofNat i) U = zT U s L i := by
  unfold zT
  by_cases c : i < L
  · rw [if_pos c, f88_eq hs h3 hL c]
  · have l := ln_sh s hs
    have k := f85_iff (a := 264 + 2 * s) (x := Int32.ofNat i) (U := U)
    rw [h3, ofNat_int (by omega), ofNat_int (by omega)] at k
    rw [if_neg c]
    unfold f_88 jget
    rw [if_pos (k.mpr (by omega))]
    rfl
theorem letters_c {U : sU} {s L : Nat} (hs : s < 8) (h3 : U.1 (264 + 2 * s) 3 = Int32.ofNat L) (hL : L ≤ 64) : ∃ S, f_15 215 (264 + 2 * s) U = some S ∧ Cf U S ∧ S.1 215 1 = Int32.ofNat L ∧ S.1 215 2 = 0 ∧ S.1 215 3 = -1 ∧ ∀ j, j < 64 → S.1 217 j = zT U s L j := by
  have e64 : (64 : Int32).toInt = 64 := rfl
  unfold f_15
  refine loop_ex (fun f (z : Int32 × sU) => f_15_2 f 215 (264 + 2 * s) z.1 z.2) (fun k z => z.1 = Int32.ofNat k ∧ Cf U z.2 ∧ ∀ j, j < k → z.2.1 217 j = zT U s L j) (fun o => ∃ S, o = some S ∧ Cf U S ∧ S.1 215 1 = Int32.ofNat L ∧ S.1 215 2 = 0 ∧ S.1 215 3 = -1 ∧ ∀ j, j < 64 → S.1 217 j = zT U s L j) 64 ?_ ?_ 64 0 FU (0, U) (by omega) (by unfold FU; omega) ⟨rfl, ⟨rfl, fun _ _ _ => rfl⟩, fun j hj => by omega⟩
  · rintro k ⟨c, Z⟩ f hk ⟨rfl, ⟨z1, z2⟩, z3⟩
    dsimp only at z1 z2 z3 ⊢
    refine Or.inr ?_
    have e3 : Z.1 (264 + 2 * s) 3 = Int32.ofNat L := by rw [z2 _ _ (by omega)]; exact h3
    have ez : zT Z s L k = zT U s L k := by unfold zT rW; rw [z1]
    have pu : iput (215 + 1) (Int32.ofNat k) (zT U s L k) Z = sI Z 217 k (zT U s L k) := by
      unfold iput
      rw [if_pos (by rw [show 215 + 1 + 1 = 216 + 1 by omega, ln_217]; exact ib_ofNat (by omega) hk), ofNat_clamp (by omega)]
    rw [f_15_2, if_neg (by rw [i32_le, e64, ofNat_int (by omega)]; omega), f88_zT hs e3 hL hk, ez, pu, ofNat_succ]
    refine ⟨(Int32.ofNat (k + 1), sI Z 217 k (zT U s L k)), ⟨rfl, ⟨z1, fun b j q => by dsimp only; rw [sI_ne (by omega)]; exact z2 b j q⟩, fun j hj => ?_⟩, rfl⟩
    dsimp only
    by_cases e : j = k
    · subst e; rw [sI_at]
    · rw [sI_nj e]; exact z3 j (by omega)
  · rintro ⟨c, Z⟩ f ⟨rfl, ⟨z1, z2⟩, z3⟩
    dsimp only at z1 z2 z3 ⊢
    have e3 : Z.1 (264 + 2 * s) 3 = Int32.ofNat L := by rw [z2 _ _ (by omega)]; exact h3
    rw [f_15_2, if_pos (by decide), e3]
    refine ⟨_, rfl, ⟨z1, fun b j q => ?_⟩, ?_, ?_, ?_, fun j hj => ?_⟩
    · rw [sI_ne (by omega), sI_ne (by omega), sI_ne (by omega)]; exact z2 b j q
    · rw [sI_nj (by omega), sI_nj (by omega), sI_at]
    · rw [sI_nj (by omega), sI_at]
    · rw [sI_at]
    · rw [sI_ne (by omega), sI_ne (by omega), sI_ne (by omega)]; exact z3 j hj
