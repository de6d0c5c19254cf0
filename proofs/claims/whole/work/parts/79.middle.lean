/-! middle: blurStands, blurWorth, both sides -/
theorem bst_in {Z : sU} {t n b j : Nat} {W : Nat → Nat} {D : Nat → Nat → Int} {x p : Int32} (ht : t < 8) (hx : x.toInt = t) (hB : Bk Z n W b) (hW : Bw n W b) {s : Int32} (h289 : Z.1 289 t = s) (hD : ∀ w, w < b → ∃ r, f_254 x (Int32.ofNat j) (Int32.ofNat w) p s Z = some r ∧ r.toInt = D j w) (hj : j < n) (k13 : Int32 → Int32 → Int32 → sU → Option (Int32 × sU)) {own : Int64} (ho : own.toInt = D j (W j)) : f_256_47 k13 FU x p (Int32.ofNat j) own 0 Z = match zlw (zub W n) D W j with | none => k13 x p (Int32.ofNat j + 1) Z | some _ => some (0, Z) := by
  have b12 := hW.2.1
  have ex : x.toNatClampNeg = t := by rw [clamp_int]; omega
  have i8 : ib x 8 := ib_int.mpr (by omega)
  generalize hp : (fun w => (zub W n).testBit w && decide (D j w < D j (W j))) = q
  have hz : zlw (zub W n) D W j = zf q 12 0 := by rw [← hp]; rfl
  rw [hz]
  refine loop_ex (fun m (c : Int32) => f_256_47 k13 m x p (Int32.ofNat j) own c Z) (fun i c => c = Int32.ofNat i ∧ ∀ v, 0 ≤ v → v < i → q v = false) (fun o => o = match zf q 12 0 with | none => k13 x p (Int32.ofNat j + 1) Z | some _ => some (0, Z)) b ?_ ?_ b 0 FU 0 (by omega) (by unfold FU; omega) ⟨rfl, fun v _ hv => by omega⟩
  · rintro i c m hi ⟨rfl, hno⟩
    obtain ⟨r, r1, r2⟩ := hD i hi
    have hu : (zub W n).testBit i = true := (Bw_used hW).mpr hi
    rw [f_256_47, hB.2, if_neg (fun q => by have := (ofNat_le (by omega) (by omega)).mp q; omega), if_pos i8, ex, h289, r1, Option.bind_some]
    by_cases hlt : D j i < D j (W j)
    · rw [if_neg (by rw [cmp_ge, ho, r2]; omega)]
      have hf : zf q 12 0 = some i := zf_eq (by omega) (by omega) (by rw [← hp]; dsimp only; rw [hu, decide_eq_true hlt]; rfl) hno
      rw [hf]
      exact Or.inl rfl
    · rw [if_pos (by rw [cmp_ge, ho, r2]; omega)]
      refine Or.inr ⟨_, ⟨rfl, fun v _ hv => ?_⟩, by rw [ofNat_succ]⟩
      by_cases e : v = i
      · subst e; rw [← hp]; dsimp only; rw [decide_eq_false hlt, Bool.and_false]
      · exact hno v (by omega) (by omega)
  · rintro c m ⟨rfl, hno⟩
    have hf : zf q 12 0 = none := zf_none.mpr (fun w _ hw => by
      by_cases e : w < b
      · exact hno w (by omega) e
      · rw [← hp]
        dsimp only
        rw [eq_false_of_ne_true (fun q => e ((Bw_used hW).mp q))]
        rfl)
    rw [f_256_47, hB.2, if_pos ((ofNat_le (by omega) (by omega)).mpr (Nat.le_refl _)), hf]
/-- what a blurred run is disliked by, as it were plain -/
theorem zspA_lt {U : sU} {T n c j w v : Nat} {l p : Int32} {s : Int} (hp : 0 ≤ p.toInt ∧ p.toInt ≤ 100) : (zsp 1 p.toInt ((zW c (n - 1) + 1 : Nat) : Int) (U.1 T 6) (zub (zW c) n) (zAc U T n l 1 p c) (gX U T) s j w < zsp 1 p.toInt ((zW c (n - 1) + 1 : Nat) : Int) (U.1 T 6) (zub (zW c) n) (zAc U T n l 1 p c) (gX U T) s j v) ↔ zD (U.1 T 6) (zAc U T n l 1 p c) (gX U T) s j w < zD (U.1 T 6) (zAc U T n l 1 p c) (gX U T) s j v := by
  unfold zsp zb zD
  rw [if_neg (by decide), if_neg (by decide)]
  by_cases c0 : p.toInt = 0
  · have eA : zAc U T n l 1 p c w = zAc U T n l 1 p c v := by
      unfold zAc
      refine zlst_congr (fun i _ => ?_) (fun i _ => rfl)
      unfold zwt zb
      rw [if_neg (by decide), if_neg (by decide), c0, Int.zero_mul, Int.zero_mul, Int.zero_mul]
    rw [eA, c0, Int.zero_mul, Int.zero_mul]
    omega
  · have := mul_lt_iff (c := p.toInt * ((zW c (n - 1) + 1 : Nat) : Int)) (a := zl (U.1 T 6) (zAc U T n l 1 p c w - gX U T j - s)) (b := zl (U.1 T 6) (zAc U T n l 1 p c v - gX U T j - s)) (Int.mul_pos (by omega) (by omega))
    rw [← this]
    omega
theorem zAc_bd {U : sU} {T n : Nat} {l bl cl : Int32} {c b : Nat} : 0 ≤ zAc U T n l bl cl c b ∧ zAc U T n l bl cl c b ≤ 999 := zlst_bd
/-- a run of a middleman: what it says, whether it stands, its worth -/
theorem mid_m {M : sU} {t n c : Nat} (h : MT M t n) {x p : Int32} (hx : x.toInt = t) (hp : 0 ≤ p.toInt ∧ p.toInt ≤ 100) (hc : c < 2048) : ∃ V1 V2 V3, f_234 x (Int32.ofNat c) M = some V1 ∧ f_253 x p V1 = some V2 ∧ f_256 x p V2 = some (if zstd M (5 + 5 * t) n (M.1 (5 + 5 * t) 4) (M.1 (5 + 5 * t) 3) 1 p c then 1 else 0, V3) ∧ Same M V3 ∧ ∃ r V4, f_257 x p V3 = some (r, V4) ∧ Same M V4 ∧ r.toInt = zwo 1 p.toInt ((zW c (n - 1) + 1 : Nat) : Int) (M.1 (5 + 5 * t) 6) n (zub (zW c) n) (zAc M (5 + 5 * t) n (M.1 (5 + 5 * t) 4) 1 p c) (gX M (5 + 5 * t)) (gC M (5 + 5 * t)) (zW c) (M.1 (5 + 5 * t) 4).toInt ∧ 0 ≤ r.toInt ∧ r.toInt ≤ 1000000000000000 := by
  have hT := h.2.1
  have n12 := hT.2.2.1
  have t8 := h.1
  have t5 := hT.2.2.2.2.1
  have hW := Bw_W (c := c) hT.2.1 n12
  have hl := h.2.2.2.2.1
  have hwi := h.2.2.2.1
  have ex : x.toNatClampNeg = t := by rw [clamp_int]; omega
  have i8 : ib x 8 := ib_int.mpr (by omega)
  have loT : 5 + 5 * t < 210 := by omega
  obtain ⟨V1, a1, a2, a3⟩ := parts_m h hx hc
  obtain ⟨V2, b1, b2, b3, b4⟩ := blurs_m (MT_same h a2) hx hp a3
  have hS := a2.tr b2
  have hMV := MT_same h hS
  have eA : ∀ w, w < zW c (n - 1) + 1 → (V2.1 308 w).toInt = zAc M (5 + 5 * t) n (M.1 (5 + 5 * t) 4) 1 p c w := by
    intro w hw
    rw [b4 w hw]
    obtain ⟨eX, eC⟩ := same_XC a2 (T := 5 + 5 * t) (by omega)
    unfold zAc
    rw [eX, eC, a2.lo loT, a2.lo loT]
  have v289 : V2.1 289 t = M.1 (5 + 5 * t) 3 := by rw [hMV.2.2.2.1.1, hS.lo loT]
  obtain ⟨V3, c1, c2, c3⟩ := arounds_m h hS b3 hW eA (fun w => zAc_bd) hx (s := M.1 (5 + 5 * t) 3) (by omega)
  have bk3 : Bk V3 n (zW c) (zW c (n - 1) + 1) := Bk_of b3 (fun i => by rw [c2.1]) (by rw [c2.1])
  have s3 := hS.tr c2.same
  have hM3 := MT_same h s3
  have e289 : V3.1 289 t = M.1 (5 + 5 * t) 3 := by rw [hM3.2.2.2.1.1, s3.lo loT]
  refine ⟨V1, V2, V3, a1, b1, ?_, s3, ?_⟩
  · unfold f_256
    rw [if_pos i8, ex, v289, c1, Option.bind_some]
    have eqv : zstd M (5 + 5 * t) n (M.1 (5 + 5 * t) 4) (M.1 (5 + 5 * t) 3) 1 p c = zok n (zsp 1 p.toInt ((zW c (n - 1) + 1 : Nat) : Int) (M.1 (5 + 5 * t) 6) (zub (zW c) n) (zAc M (5 + 5 * t) n (M.1 (5 + 5 * t) 4) 1 p c) (gX M (5 + 5 * t)) (M.1 (5 + 5 * t) 3).toInt) (zW c) := by
      unfold zstd
      exact zok_congr hW (fun j w _ _ => (zspA_lt hp).symm)
    rw [eqv]
    generalize hDD : zsp 1 p.toInt ((zW c (n - 1) + 1 : Nat) : Int) (M.1 (5 + 5 * t) 6) (zub (zW c) n) (zAc M (5 + 5 * t) n (M.1 (5 + 5 * t) 4) 1 p c) (gX M (5 + 5 * t)) (M.1 (5 + 5 * t) 3).toInt = D
    have hD : ∀ j, j < n → ∀ w, w < zW c (n - 1) + 1 → ∃ r, f_254 x (Int32.ofNat j) (Int32.ofNat w) p (M.1 (5 + 5 * t) 3) V3 = some r ∧ r.toInt = D j w := by
      intro j hj w hw
      obtain ⟨r, r1, r2, _⟩ := blurred_m h hS b3 hW eA (fun w => zAc_bd) hx (s := M.1 (5 + 5 * t) 3) (by omega) hp c2 c3 hj hw
      rw [← hDD]
      exact ⟨r, r1, r2⟩
    refine loop_ex (fun m (s : Int32) => f_256_13 m x p s V3) (fun i s => s = Int32.ofNat i ∧ ∀ j, 0 ≤ j → j < i → (zlw (zub (zW c) n) D (zW c) j).isSome = false) (fun o => o = some (if zok n D (zW c) then 1 else 0, V3)) n ?_ ?_ n 0 FU 0 (by omega) (by unfold FU; omega) ⟨rfl, fun j _ hj => by omega⟩
    · rintro i s m hi ⟨rfl, hno⟩
      have wi := hW.2.2.1 i hi
      obtain ⟨r, r1, r2⟩ := hD i hi (zW c i) wi
      rw [f_256_13]
      simp only [if_pos i8, ex, hM3.2.2.1, if_pos (ib_ofNat (n := 12) (by omega) (show i < 12 by omega)), ofNat_clamp (show i < 2147483648 by omega), bk3.1 i hi, e289, r1, Option.bind_some]
      rw [if_neg (fun q => by have := (ofNat_le (by omega) (by omega)).mp q; omega), bst_in t8 hx bk3 hW e289 (hD i hi) hi _ r2]
      cases hz : zlw (zub (zW c) n) D (zW c) i with
      | none =>
        dsimp only
        refine Or.inr ⟨_, ⟨rfl, fun j _ hj => ?_⟩, by rw [ofNat_succ]⟩
        by_cases e : j = i
        · subst e; rw [hz]; rfl
        · exact hno j (by omega) (by omega)
      | some w =>
        dsimp only
        have hf : zf (fun t => (zlw (zub (zW c) n) D (zW c) t).isSome) n 0 = some i := zf_eq (by omega) (by omega) (by rw [hz]; rfl) hno
        have hl : zlie n (zub (zW c) n) D (zW c) = 100 * i + w := by
          unfold zlie
          rw [hf]
          dsimp only
          rw [hz]
        have hk : zok n D (zW c) = false := decide_eq_false (by rw [hl]; omega)
        rw [hk]
        exact Or.inl rfl
    · rintro s m ⟨rfl, hno⟩
      have hf : zf (fun t => (zlw (zub (zW c) n) D (zW c) t).isSome) n 0 = none := zf_none.mpr (fun w h1 hw => hno w h1 (by omega))
      have hl : zlie n (zub (zW c) n) D (zW c) = -1 := by
        unfold zlie
        rw [hf]
      have hk : zok n D (zW c) = true := decide_eq_true hl
      rw [f_256_13]
      simp only [if_pos i8, ex, hM3.2.2.1]
      rw [if_pos ((ofNat_le (by omega) (by omega)).mpr (Nat.le_refl _)), hk]
      rfl
  · have v290 : V3.1 290 t = M.1 (5 + 5 * t) 4 := by rw [hM3.2.2.2.2.1.1, s3.lo loT]
    have eA3 : ∀ w, w < zW c (n - 1) + 1 → (V3.1 308 w).toInt = zAc M (5 + 5 * t) n (M.1 (5 + 5 * t) 4) 1 p c w := fun w hw => by rw [c2.1]; exact eA w hw
    obtain ⟨V4, d1, d2, d3⟩ := arounds_m h s3 bk3 hW eA3 (fun w => zAc_bd) hx (s := M.1 (5 + 5 * t) 4) (by omega)
    have s4 := s3.tr d2.same
    have hM4 := MT_same h s4
    have bk4 : Bk V4 n (zW c) (zW c (n - 1) + 1) := Bk_of bk3 (fun i => by rw [d2.1]) (by rw [d2.1])
    have e290 : V4.1 290 t = M.1 (5 + 5 * t) 4 := by rw [hM4.2.2.2.2.1.1, s4.lo loT]
    generalize hDD : zsp 1 p.toInt ((zW c (n - 1) + 1 : Nat) : Int) (M.1 (5 + 5 * t) 6) (zub (zW c) n) (zAc M (5 + 5 * t) n (M.1 (5 + 5 * t) 4) 1 p c) (gX M (5 + 5 * t)) (M.1 (5 + 5 * t) 4).toInt = D
    have hD : ∀ j, j < n → ∀ w, w < zW c (n - 1) + 1 → ∃ r, f_254 x (Int32.ofNat j) (Int32.ofNat w) p (M.1 (5 + 5 * t) 4) V4 = some r ∧ r.toInt = D j w ∧ 0 ≤ r.toInt ∧ r.toInt ≤ 10000000000 := by
      intro j hj w hw
      obtain ⟨r, r1, r2, r3⟩ := blurred_m h s3 bk3 hW eA3 (fun w => zAc_bd) hx (s := M.1 (5 + 5 * t) 4) (by omega) hp d2 d3 hj hw
      rw [← hDD]
      exact ⟨r, r1, r2, r3⟩
    have ewo : zwo 1 p.toInt ((zW c (n - 1) + 1 : Nat) : Int) (M.1 (5 + 5 * t) 6) n (zub (zW c) n) (zAc M (5 + 5 * t) n (M.1 (5 + 5 * t) 4) 1 p c) (gX M (5 + 5 * t)) (gC M (5 + 5 * t)) (zW c) (M.1 (5 + 5 * t) 4).toInt = zs (fun i => gC M (5 + 5 * t) i * D i (zW c i)) n := by rw [← hDD]; rfl
    rw [ewo]
    have tb : ∀ i, i < n → 0 ≤ gC M (5 + 5 * t) i * D i (zW c i) ∧ gC M (5 + 5 * t) i * D i (zW c i) ≤ 99 * 10000000000 := by
      intro i hi
      obtain ⟨r, _, r2, r3, r4⟩ := hD i hi (zW c i) (hW.2.2.1 i hi)
      have q1 := t5 i hi
      exact pbn (by omega) (by omega) (by omega) (by omega)
    have sb : ∀ j, j ≤ n → 0 ≤ zs (fun i => gC M (5 + 5 * t) i * D i (zW c i)) j ∧ zs (fun i => gC M (5 + 5 * t) i * D i (zW c i)) j ≤ 12 * (99 * 10000000000) := fun j hj => zs_bd (by omega) (fun i hi => tb i (by omega)) (by omega)
    have cI : ∀ i, i < n → (V4.1 297 (12 * t + i)).toInt64.toInt = gC M (5 + 5 * t) i := by
      intro i hi
      rw [w64, (hM4.2.2.2.2.2.2.2.2.2.2 i hi).2]
      unfold gC
      rw [s4.lo (by omega)]
    unfold f_257
    rw [if_pos i8, ex, v290, d1, Option.bind_some]
    refine loop_ex (fun m (s' : Int64 × Int32) => f_257_16 m x p s'.1 s'.2 V4) (fun i s' => s'.2 = Int32.ofNat i ∧ s'.1.toInt = zs (fun i => gC M (5 + 5 * t) i * D i (zW c i)) i) (fun o => ∃ r Z, o = some (r, Z) ∧ Same M Z ∧ r.toInt = zs (fun i => gC M (5 + 5 * t) i * D i (zW c i)) n ∧ 0 ≤ r.toInt ∧ r.toInt ≤ 1000000000000000) n ?_ ?_ n 0 FU (0, 0) (by omega) (by unfold FU; omega) ⟨rfl, rfl⟩
    · rintro i ⟨al, ic⟩ m hi ⟨rfl, hal⟩
      dsimp only at hal ⊢
      refine Or.inr ?_
      obtain ⟨m1, m2⟩ := mul12 (s := x) (i := Int32.ofNat i) hx (ofNat_int (by omega)) (by omega) (by omega)
      obtain ⟨r, r1, r2, _⟩ := hD i hi (zW c i) (hW.2.2.1 i hi)
      have tk := tb i hi
      have sk := sb i (by omega)
      rw [f_257_16]
      simp only [if_pos i8, ex, hM4.2.2.1, if_pos (ib_int.mpr (show 0 ≤ (12 * x + Int32.ofNat i).toInt ∧ (12 * x + Int32.ofNat i).toInt < (96 : Nat) by omega)), m2, if_pos (ib_ofNat (n := 12) (by omega) (show i < 12 by omega)), ofNat_clamp (show i < 2147483648 by omega), bk4.1 i hi, e290, r1, Option.bind_some]
      rw [if_neg (fun q => by have := (ofNat_le (by omega) (by omega)).mp q; omega), ofNat_succ]
      have g1 : ((V4.1 297 (12 * t + i)).toInt64 * r).toInt = gC M (5 + 5 * t) i * D i (zW c i) := by rw [m64 (by rw [cI i hi, r2]; omega) (by rw [cI i hi, r2]; omega), cI i hi, r2]
      refine ⟨(al + (V4.1 297 (12 * t + i)).toInt64 * r, Int32.ofNat (i + 1)), ⟨rfl, ?_⟩, rfl⟩
      dsimp only
      show _ = zs _ i + _
      rw [a64 (by rw [hal, g1]; omega) (by rw [hal, g1]; omega), hal, g1]
    · rintro ⟨al, ic⟩ m ⟨rfl, hal⟩
      dsimp only at hal ⊢
      have sk := sb n (Nat.le_refl _)
      rw [f_257_16]
      simp only [if_pos i8, ex, hM4.2.2.1]
      rw [if_pos ((ofNat_le (by omega) (by omega)).mpr (Nat.le_refl _))]
      exact ⟨al, V4, rfl, s4, hal, by omega, by omega⟩
