/-! the reference: failsAt, worthOf -/
def mD (M : sU) (k t n : Nat) (s : Int) (j w : Nat) : Int := zsp (mBl M k) (mCl M k) (zpc (zub (mW M k) n)) (M.1 (5 + 5 * t) 6) (zub (mW M k) n) (mA M k (5 + 5 * t) n) (gX M (5 + 5 * t)) s j w
def zfa (M : sU) (k t n : Nat) : Int := if zlie n (zub (mW M k) n) (zD (M.1 (5 + 5 * t) 6) (mA M k (5 + 5 * t) n) (gX M (5 + 5 * t)) (M.1 (5 + 5 * t) 3).toInt) (mW M k) = -1 then (if M.1 (45 + 5 * k) 2 = 5 then zto (M.1 (5 + 5 * t) 6) n (zub (mW M k) n) (gC M (5 + 5 * t)) (gX M (5 + 5 * t)) (mW M k) (M.1 (5 + 5 * t) 4).toInt (mB M k (5 + 5 * t) n) (mA M k (5 + 5 * t) n) else -1) else zlie n (zub (mW M k) n) (zD (M.1 (5 + 5 * t) 6) (mA M k (5 + 5 * t) n) (gX M (5 + 5 * t)) (M.1 (5 + 5 * t) 3).toInt) (mW M k)
theorem lie_m {M V : sU} {k t n j : Nat} (h : MG M k t n) (ha : Ac M V k t n) {x : Int32} (hx : x.toInt = k) (hj : j < n) (k14 : Int32 → Int32 → Int32 → sU → Option (Int32 × sU)) {own : Int64} (ho : own.toInt = mD M k t n (M.1 (5 + 5 * t) 3).toInt j (mW M k j)) : f_228_52 k14 FU x (Int32.ofNat t) (Int32.ofNat j) own 0 V = match zlw (zub (mW M k) n) (mD M k t n (M.1 (5 + 5 * t) 3).toInt) (mW M k) j with | none => k14 x (Int32.ofNat t) (Int32.ofNat j + 1) V | some w => some (100 * Int32.ofNat j + Int32.ofNat w, V) := by
  obtain ⟨un1, un12, hq⟩ := MG_un h
  have hS := ha.1
  have h43 := ha.2.1
  have hMV := MT_same h.2.1 hS
  have hw := h.2.1.2.2.2.1.2
  have e12 : (12 : Int32).toInt = 12 := rfl
  have t8 := h.2.1.1
  have it8 : ib (Int32.ofNat t) 8 := ib_ofNat (by omega) t8
  have et2 : (Int32.ofNat t).toNatClampNeg = t := ofNat_clamp (by omega)
  have w289 : V.1 289 t = M.1 (5 + 5 * t) 3 := by rw [hMV.2.2.2.1.1, hS.lo (by omega)]
  generalize hp : (fun w => (zub (mW M k) n).testBit w && decide (mD M k t n (M.1 (5 + 5 * t) 3).toInt j w < mD M k t n (M.1 (5 + 5 * t) 3).toInt j (mW M k j))) = p
  have hz : zlw (zub (mW M k) n) (mD M k t n (M.1 (5 + 5 * t) 3).toInt) (mW M k) j = zf p 12 0 := by rw [← hp]; rfl
  rw [hz]
  refine loop_ex (fun m (s : Int32) => f_228_52 k14 m x (Int32.ofNat t) (Int32.ofNat j) own s V) (fun i s => s = Int32.ofNat i ∧ ∀ v, 0 ≤ v → v < i → p v = false) (fun b => b = match zf p 12 0 with | none => k14 x (Int32.ofNat t) (Int32.ofNat j + 1) V | some w => some (100 * Int32.ofNat j + Int32.ofNat w, V)) 12 ?_ ?_ 12 0 FU 0 (by omega) (by unfold FU; omega) ⟨rfl, fun v _ hv => by omega⟩
  · rintro i c m hi ⟨rfl, hno⟩
    have next : p i = false → ∃ s', (s' = Int32.ofNat (i + 1) ∧ ∀ v, 0 ≤ v → v < i + 1 → p v = false) ∧ f_228_52 k14 m x (Int32.ofNat t) (Int32.ofNat j) own (Int32.ofNat i + 1) V = f_228_52 k14 m x (Int32.ofNat t) (Int32.ofNat j) own s' V := by
      intro hpk
      refine ⟨_, ⟨rfl, fun v _ hv => ?_⟩, by rw [ofNat_succ]⟩
      by_cases e : v = i
      · subst e; exact hpk
      · exact hno v (by omega) (by omega)
    rw [f_228_52, if_neg (by rw [i32_le, e12, ofNat_int (by omega)]; omega), h43]
    by_cases htb : (zub (mW M k) n).testBit i = true
    · rw [if_pos ((bit_at hq hi).1.mpr htb), if_pos it8, et2, w289]
      obtain ⟨r, r1, r2, _⟩ := losesBy_m h ha hx hj hi htb (s := M.1 (5 + 5 * t) 3) (by omega)
      have r2 : r.toInt = mD M k t n (M.1 (5 + 5 * t) 3).toInt j i := r2
      rw [r1, Option.bind_some]
      by_cases hlt : mD M k t n (M.1 (5 + 5 * t) 3).toInt j i < mD M k t n (M.1 (5 + 5 * t) 3).toInt j (mW M k j)
      · rw [if_neg (by rw [cmp_ge, ho, r2]; omega)]
        have hf : zf p 12 0 = some i := zf_eq (by omega) (by omega) (by rw [← hp]; dsimp only; rw [htb, decide_eq_true hlt]; rfl) hno
        rw [hf]
        exact Or.inl rfl
      · rw [if_pos (by rw [cmp_ge, ho, r2]; omega)]
        exact Or.inr (next (by rw [← hp]; dsimp only; rw [decide_eq_false hlt, Bool.and_false]))
    · rw [if_neg (fun g => htb ((bit_at hq hi).1.mp g))]
      exact Or.inr (next (by rw [← hp]; dsimp only; rw [eq_false_of_ne_true htb]; rfl))
  · rintro c m ⟨rfl, hno⟩
    have hf : zf p 12 0 = none := zf_none.mpr (fun w h1 hw => hno w h1 (by omega))
    rw [f_228_52, if_pos (by rw [i32_le, e12, ofNat_int (by omega)]; omega), hf]
theorem told_m {M V : sU} {k t n : Nat} (h : MG M k t n) (ha : Ac M V k t n) (hk : M.1 (45 + 5 * k) 2 = 5) {x : Int32} (hx : x.toInt = k) : ∃ r Z, f_228_126 FU x 0 V = some (r, Z) ∧ Ac M Z k t n ∧ r.toInt = zto (M.1 (5 + 5 * t) 6) n (zub (mW M k) n) (gC M (5 + 5 * t)) (gX M (5 + 5 * t)) (mW M k) (M.1 (5 + 5 * t) 4).toInt (mB M k (5 + 5 * t) n) (mA M k (5 + 5 * t) n) := by
  obtain ⟨un1, un12, hq⟩ := MG_un h
  have e12 : (12 : Int32).toInt = 12 := rfl
  have e1k : (10000 : Int32).toInt = 10000 := rfl
  unfold zto
  generalize hp : (fun w => (zub (mW M k) n).testBit w && decide (zhe (M.1 (5 + 5 * t) 6) n (gC M (5 + 5 * t)) (gX M (5 + 5 * t)) (mW M k) (M.1 (5 + 5 * t) 4).toInt w (mB M k (5 + 5 * t) n w) < zhe (M.1 (5 + 5 * t) 6) n (gC M (5 + 5 * t)) (gX M (5 + 5 * t)) (mW M k) (M.1 (5 + 5 * t) 4).toInt w (mA M k (5 + 5 * t) n w))) = p
  refine loop_ex (fun m (s : Int32 × sU) => f_228_126 m x s.1 s.2) (fun i s => s.1 = Int32.ofNat i ∧ Ac M s.2 k t n ∧ ∀ v, 0 ≤ v → v < i → p v = false) (fun b => ∃ r Z, b = some (r, Z) ∧ Ac M Z k t n ∧ r.toInt = match zf p 12 0 with | none => -1 | some w => 10000 + (w : Int)) 12 ?_ ?_ 12 0 FU (0, V) (by omega) (by unfold FU; omega) ⟨rfl, ha, fun v _ hv => by omega⟩
  · rintro i ⟨c, Y⟩ m hi ⟨rfl, hA, hno⟩
    dsimp only at hA hno ⊢
    have next : ∀ Z, Ac M Z k t n → p i = false → ∃ s' : Int32 × sU, (s'.1 = Int32.ofNat (i + 1) ∧ Ac M s'.2 k t n ∧ ∀ v, 0 ≤ v → v < i + 1 → p v = false) ∧ f_228_126 m x (Int32.ofNat i + 1) Z = f_228_126 m x s'.1 s'.2 := by
      intro Z hZ hpk
      refine ⟨(Int32.ofNat (i + 1), Z), ⟨rfl, hZ, fun v _ hv => ?_⟩, by rw [ofNat_succ]⟩
      by_cases e : v = i
      · subst e; exact hpk
      · exact hno v (by omega) (by omega)
    rw [f_228_126, if_neg (by rw [i32_le, e12, ofNat_int (by omega)]; omega), hA.2.1]
    by_cases htb : (zub (mW M k) n).testBit i = true
    · rw [if_pos ((bit_at hq hi).1.mpr htb)]
      obtain ⟨r, Z, r1, r2, r3⟩ := isWorse_m h hA hk hx hi htb
      rw [r1, Option.bind_some]
      dsimp only
      by_cases hlt : zhe (M.1 (5 + 5 * t) 6) n (gC M (5 + 5 * t)) (gX M (5 + 5 * t)) (mW M k) (M.1 (5 + 5 * t) 4).toInt i (mB M k (5 + 5 * t) n i) < zhe (M.1 (5 + 5 * t) 6) n (gC M (5 + 5 * t)) (gX M (5 + 5 * t)) (mW M k) (M.1 (5 + 5 * t) 4).toInt i (mA M k (5 + 5 * t) n i)
      · rw [if_neg (fun g => r3.mp g hlt)]
        have hf : zf p 12 0 = some i := zf_eq (by omega) (by omega) (by rw [← hp]; dsimp only; rw [htb, decide_eq_true hlt]; rfl) hno
        rw [hf]
        refine Or.inl ⟨_, Z, rfl, r2, ?_⟩
        dsimp only
        rw [a32 (by rw [e1k, ofNat_int (by omega)]; omega) (by rw [e1k, ofNat_int (by omega)]; omega), e1k, ofNat_int (by omega)]
      · rw [if_pos (r3.mpr hlt)]
        exact Or.inr (next Z r2 (by rw [← hp]; dsimp only; rw [decide_eq_false hlt, Bool.and_false]))
    · rw [if_neg (fun g => htb ((bit_at hq hi).1.mp g))]
      exact Or.inr (next Y hA (by rw [← hp]; dsimp only; rw [eq_false_of_ne_true htb]; rfl))
  · rintro ⟨c, Y⟩ m ⟨rfl, hA, hno⟩
    dsimp only at hA hno ⊢
    have hf : zf p 12 0 = none := zf_none.mpr (fun w h1 hw => hno w h1 (by omega))
    rw [f_228_126, if_pos (by rw [i32_le, e12, ofNat_int (by omega)]; omega), hf]
    exact ⟨_, Y, rfl, hA, rfl⟩
theorem fails_m {M : sU} {k t n : Nat} (h : MG M k t n) {x : Int32} (hx : x.toInt = k) : ∃ r Z, f_228 x M = some (r, Z) ∧ Same M Z ∧ r.toInt = zfa M k t n := by
  obtain ⟨V, a1, a2⟩ := acts_m h hx
  have hS := a2.1
  have hMV := MT_same h.2.1 hS
  have hGV := MG_same h hS
  have hw := h.2.1.2.2.2.1.2
  have t8 := h.2.1.1
  have n12 := h.2.1.2.1.2.2.1
  have k12 := h.1
  have ex : x.toNatClampNeg = k := by rw [clamp_int]; omega
  have i12 : ib x 12 := ib_int.mpr (by omega)
  have it8 : ib (Int32.ofNat t) 8 := ib_ofNat (by omega) t8
  have et2 : (Int32.ofNat t).toNatClampNeg = t := ofNat_clamp (by omega)
  have em1 : ((-1) : Int32).toInt = -1 := rfl
  have w289 : V.1 289 t = M.1 (5 + 5 * t) 3 := by rw [hMV.2.2.2.1.1, hS.lo (by omega)]
  have v299 : V.1 299 k = M.1 (45 + 5 * k) 2 := by rw [hGV.2.2.2.2.1, hS.lo (by omega)]
  have i144 : ∀ i, i < n → ib (12 * x + Int32.ofNat i) 144 ∧ (12 * x + Int32.ofNat i).toNatClampNeg = 12 * k + i := by
    intro i hi
    obtain ⟨m1, m2⟩ := mul12 (s := x) (i := Int32.ofNat i) hx (ofNat_int (by omega)) (by omega) (by omega)
    exact ⟨ib_int.mpr (by omega), m2⟩
  have eW : ∀ i, i < n → V.1 301 (12 * k + i) = Int32.ofNat (mW M k i) ∧ mW M k i < 12 := by
    intro i hi
    have := hGV.2.2.2.2.2.2.2.1 i hi
    rwa [mW_same hS k12] at this
  have eqv : zlie n (zub (mW M k) n) (mD M k t n (M.1 (5 + 5 * t) 3).toInt) (mW M k) = zlie n (zub (mW M k) n) (zD (M.1 (5 + 5 * t) 6) (mA M k (5 + 5 * t) n) (gX M (5 + 5 * t)) (M.1 (5 + 5 * t) 3).toInt) (mW M k) := zlie_congr (fun j w hj hw12 hu => zsp_lt h hw12 (eW j hj).2)
  unfold zfa
  rw [← eqv]
  unfold f_228
  simp only [if_pos i12, a1, Option.bind_some, ex, h.2.2.1]
  refine loop_ex (fun m (s : Int32) => f_228_14 m x (Int32.ofNat t) s V) (fun i s => s = Int32.ofNat i ∧ ∀ j, 0 ≤ j → j < i → (zlw (zub (mW M k) n) (mD M k t n (M.1 (5 + 5 * t) 3).toInt) (mW M k) j).isSome = false) (fun b => ∃ r Z, b = some (r, Z) ∧ Same M Z ∧ r.toInt = if zlie n (zub (mW M k) n) (mD M k t n (M.1 (5 + 5 * t) 3).toInt) (mW M k) = -1 then (if M.1 (45 + 5 * k) 2 = 5 then zto (M.1 (5 + 5 * t) 6) n (zub (mW M k) n) (gC M (5 + 5 * t)) (gX M (5 + 5 * t)) (mW M k) (M.1 (5 + 5 * t) 4).toInt (mB M k (5 + 5 * t) n) (mA M k (5 + 5 * t) n) else -1) else zlie n (zub (mW M k) n) (mD M k t n (M.1 (5 + 5 * t) 3).toInt) (mW M k)) n ?_ ?_ n 0 FU 0 (by omega) (by unfold FU; omega) ⟨rfl, fun j _ hj => by omega⟩
  · rintro i c m hi ⟨rfl, hno⟩
    obtain ⟨j1, j2⟩ := i144 i hi
    obtain ⟨w1, w2⟩ := eW i hi
    obtain ⟨r, r1, r2, _⟩ := losesBy_m h a2 hx hi w2 (W_used hi) (s := M.1 (5 + 5 * t) 3) (by omega)
    rw [f_228_14]
    simp only [if_pos it8, et2, hMV.2.2.1, if_pos j1, j2, w1, w289, r1, Option.bind_some]
    rw [if_neg (fun q => by have := (ofNat_le (by omega) (by omega)).mp q; omega), lie_m h a2 hx hi _ r2]
    cases hz : zlw (zub (mW M k) n) (mD M k t n (M.1 (5 + 5 * t) 3).toInt) (mW M k) i with
    | none =>
      dsimp only
      refine Or.inr ⟨_, ⟨rfl, fun j _ hj => ?_⟩, by rw [ofNat_succ]⟩
      by_cases e : j = i
      · subst e; rw [hz]; rfl
      · exact hno j (by omega) (by omega)
    | some w =>
      dsimp only
      refine Or.inl ⟨_, V, rfl, hS, ?_⟩
      have hw := zf_some hz
      have hf : zf (fun t_1 => (zlw (zub (mW M k) n) (mD M k t n (M.1 (5 + 5 * t) 3).toInt) (mW M k) t_1).isSome) n 0 = some i := zf_eq (by omega) (by omega) (by rw [hz]; rfl) hno
      have hl : zlie n (zub (mW M k) n) (mD M k t n (M.1 (5 + 5 * t) 3).toInt) (mW M k) = 100 * i + w := by
        unfold zlie
        rw [hf]
        dsimp only
        rw [hz]
      rw [i100 (by omega) (by omega), hl, if_neg (by omega)]
  · rintro c m ⟨rfl, hno⟩
    have hf : zf (fun t_1 => (zlw (zub (mW M k) n) (mD M k t n (M.1 (5 + 5 * t) 3).toInt) (mW M k) t_1).isSome) n 0 = none := zf_none.mpr (fun w h1 hw => hno w h1 (by omega))
    have hl : zlie n (zub (mW M k) n) (mD M k t n (M.1 (5 + 5 * t) 3).toInt) (mW M k) = -1 := by
      unfold zlie
      rw [hf]
    rw [hl, if_pos rfl, f_228_14]
    simp only [if_pos it8, et2, hMV.2.2.1, if_pos i12, ex, v299]
    rw [if_pos ((ofNat_le (by omega) (by omega)).mpr (Nat.le_refl _))]
    by_cases k5 : M.1 (45 + 5 * k) 2 = 5
    · rw [if_pos k5, if_pos k5]
      obtain ⟨r, Z, r1, r2, r3⟩ := told_m h a2 k5 hx
      exact ⟨r, Z, r1, r2.1, r3⟩
    · rw [if_neg k5, if_neg k5]
      exact ⟨_, V, rfl, hS, em1⟩
theorem worthOf_m {M : sU} {k t n : Nat} (h : MG M k t n) {x s : Int32} (hx : x.toInt = k) (hs : -600 ≤ s.toInt ∧ s.toInt ≤ 600) : ∃ r Z, f_232 x s M = some (r, Z) ∧ Same M Z ∧ r.toInt = zwo (mBl M k) (mCl M k) (zpc (zub (mW M k) n)) (M.1 (5 + 5 * t) 6) n (zub (mW M k) n) (mA M k (5 + 5 * t) n) (gX M (5 + 5 * t)) (gC M (5 + 5 * t)) (mW M k) s.toInt := by
  obtain ⟨V, a1, a2⟩ := acts_m h hx
  have hS := a2.1
  have hMV := MT_same h.2.1 hS
  have hGV := MG_same h hS
  have t8 := h.2.1.1
  have n12 := h.2.1.2.1.2.2.1
  have t5 := h.2.1.2.1.2.2.2.2.1
  have k12 := h.1
  have ex : x.toNatClampNeg = k := by rw [clamp_int]; omega
  have i12 : ib x 12 := ib_int.mpr (by omega)
  have it8 : ib (Int32.ofNat t) 8 := ib_ofNat (by omega) t8
  have et : (Int32.ofNat t).toInt = t := ofNat_int (by omega)
  have et2 : (Int32.ofNat t).toNatClampNeg = t := ofNat_clamp (by omega)
  have i144 : ∀ i, i < n → ib (12 * x + Int32.ofNat i) 144 ∧ (12 * x + Int32.ofNat i).toNatClampNeg = 12 * k + i := by
    intro i hi
    obtain ⟨m1, m2⟩ := mul12 (s := x) (i := Int32.ofNat i) hx (ofNat_int (by omega)) (by omega) (by omega)
    exact ⟨ib_int.mpr (by omega), m2⟩
  have i96 : ∀ i, i < n → ib (12 * Int32.ofNat t + Int32.ofNat i) 96 ∧ (12 * Int32.ofNat t + Int32.ofNat i).toNatClampNeg = 12 * t + i := by
    intro i hi
    obtain ⟨m1, m2⟩ := mul12 (s := Int32.ofNat t) (i := Int32.ofNat i) et (ofNat_int (by omega)) (by omega) (by omega)
    exact ⟨ib_int.mpr (by omega), m2⟩
  have eW : ∀ i, i < n → V.1 301 (12 * k + i) = Int32.ofNat (mW M k i) ∧ mW M k i < 12 := by
    intro i hi
    have := hGV.2.2.2.2.2.2.2.1 i hi
    rwa [mW_same hS k12] at this
  have cI : ∀ i, i < n → (V.1 297 (12 * t + i)).toInt64.toInt = gC M (5 + 5 * t) i := by
    intro i hi
    rw [w64, (hMV.2.2.2.2.2.2.2.2.2.2 i hi).2]
    unfold gC
    rw [hS.lo (by omega)]
  unfold f_232
  simp only [if_pos i12, a1, Option.bind_some, ex, h.2.2.1]
  have tb : ∀ i, i < n → 0 ≤ gC M (5 + 5 * t) i * mD M k t n s.toInt i (mW M k i) ∧ gC M (5 + 5 * t) i * mD M k t n s.toInt i (mW M k i) ≤ 99 * 10000000000 := by
    intro i hi
    obtain ⟨r, r1, r2, r3, r4⟩ := losesBy_m h a2 hx hi (eW i hi).2 (W_used hi) hs
    have q1 := t5 i hi
    have r2 : r.toInt = mD M k t n s.toInt i (mW M k i) := r2
    exact pbn (by omega) (by omega) (by omega) (by omega)
  have sb : ∀ j, j ≤ n → 0 ≤ zs (fun i => gC M (5 + 5 * t) i * mD M k t n s.toInt i (mW M k i)) j ∧ zs (fun i => gC M (5 + 5 * t) i * mD M k t n s.toInt i (mW M k i)) j ≤ 12 * (99 * 10000000000) := fun j hj => zs_bd (by omega) (fun i hi => tb i (by omega)) (by omega)
  refine loop_ex (fun m (s' : Int64 × Int32) => f_232_18 m x s (Int32.ofNat t) s'.1 s'.2 V) (fun i s' => s'.2 = Int32.ofNat i ∧ s'.1.toInt = zs (fun i => gC M (5 + 5 * t) i * mD M k t n s.toInt i (mW M k i)) i) (fun o => ∃ r Z, o = some (r, Z) ∧ Same M Z ∧ r.toInt = zwo (mBl M k) (mCl M k) (zpc (zub (mW M k) n)) (M.1 (5 + 5 * t) 6) n (zub (mW M k) n) (mA M k (5 + 5 * t) n) (gX M (5 + 5 * t)) (gC M (5 + 5 * t)) (mW M k) s.toInt) n ?_ ?_ n 0 FU (0, 0) (by omega) (by unfold FU; omega) ⟨rfl, rfl⟩
  · rintro i ⟨al, c⟩ m hi ⟨rfl, hal⟩
    dsimp only at hal ⊢
    refine Or.inr ?_
    obtain ⟨j1, j2⟩ := i144 i hi
    obtain ⟨j3, j4⟩ := i96 i hi
    obtain ⟨w1, w2⟩ := eW i hi
    obtain ⟨r, r1, r2, r3, r4⟩ := losesBy_m h a2 hx hi w2 (W_used hi) hs
    have r2 : r.toInt = mD M k t n s.toInt i (mW M k i) := r2
    have tk := tb i hi
    have sk := sb i (by omega)
    rw [f_232_18]
    simp only [if_pos it8, et2, hMV.2.2.1, if_pos j1, if_pos j3, j2, j4, w1, r1, Option.bind_some]
    rw [if_neg (fun q => by have := (ofNat_le (by omega) (by omega)).mp q; omega), ofNat_succ]
    have m1 : ((V.1 297 (12 * t + i)).toInt64 * r).toInt = gC M (5 + 5 * t) i * mD M k t n s.toInt i (mW M k i) := by rw [m64 (by rw [cI i hi, r2]; omega) (by rw [cI i hi, r2]; omega), cI i hi, r2]
    refine ⟨(al + (V.1 297 (12 * t + i)).toInt64 * r, Int32.ofNat (i + 1)), ⟨rfl, ?_⟩, rfl⟩
    dsimp only
    show _ = zs _ i + _
    rw [a64 (by rw [hal, m1]; omega) (by rw [hal, m1]; omega), hal, m1]
  · rintro ⟨al, c⟩ m ⟨rfl, hal⟩
    dsimp only at hal ⊢
    rw [f_232_18]
    simp only [if_pos it8, et2, hMV.2.2.1]
    rw [if_pos ((ofNat_le (by omega) (by omega)).mpr (Nat.le_refl _))]
    exact ⟨al, V, rfl, hS, hal⟩
