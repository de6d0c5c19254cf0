/-! draw on both sides -/
def zdr (f : Int32 → Int32 × Nat × Nat) (L : Nat → Nat → Int) (z : Int32) : Nat → Int32 × Int
  | 0 => (z, 0)
  | k + 1 => ((f (zdr f L z k).1).1, (zdr f L z k).2 + L (f (zdr f L z k).1).2.1 (f (zdr f L z k).1).2.2)
theorem lot_bd {z : Int32} {e : Int} (he : 0 < e) : 0 ≤ lot z e ∧ lot z e < e := ⟨Int.emod_nonneg _ (by omega), Int.emod_lt_of_pos _ he⟩
theorem zdo_t {nu : Int32 → Int32} {n u : Nat} {bl : Int32} {cl un : Int} {C : Nat → Int} {W : Nat → Nat} {z : Int32} : (zdo nu n u bl cl un C W z).2.1 = zdt n C (lot (nu z) (zs C n)) := by
  unfold zdo
  split
  · rfl
  · split <;> rfl
theorem zdo_w {nu : Int32 → Int32} {n : Nat} {bl : Int32} {cl : Int} {C : Nat → Int} {W : Nat → Nat} {z : Int32} (hn : 1 ≤ n) (hC : 0 < zs C n) (hW : ∀ i, i < n → W i < 12) : (zdo nu n (zub W n) bl cl (zpc (zub W n)) C W z).2.2 < 12 ∧ (zub W n).testBit (zdo nu n (zub W n) bl cl (zpc (zub W n)) C W z).2.2 = true ∧ zdt n C (lot (nu z) (zs C n)) < n := by
  have ht := (zdt_ok (lot_bd (z := nu z) hC).2 hn).1
  have pos : 1 ≤ zpc (zub W n) := zpc_pos (hW 0 (by omega)) (zub_test.mpr ⟨0, by omega, rfl⟩)
  unfold zdo
  split
  · exact ⟨hW _ ht, W_used ht, ht⟩
  · split
    · exact ⟨hW _ ht, W_used ht, ht⟩
    · have lb := lot_bd (z := nu (nu (nu z))) (e := (zpc (zub W n) : Int)) (by omega)
      obtain ⟨w, w1, w2, w3⟩ := zdw_ok (u := zub W n) (p := (lot (nu (nu (nu z))) (zpc (zub W n))).toNat) (by omega)
      have e := zdw_is (p := lot (nu (nu (nu z))) (zpc (zub W n))) w1 w2 (by rw [w3]; omega)
      rw [e]
      exact ⟨w1, w2, ht⟩
theorem drawn_c {nu : Int32 → Int32} (hg : Nu nu) {V : sU} {a T n : Nat} {W : Nat → Nat} {A : Nat → Int} (h : Rdy V a T n W A) {seed times : Int32} (ht : 0 ≤ times.toInt ∧ times.toInt ≤ 200) : ∃ r Z, f_63 a seed times V = some (r, Z) ∧ Fr (fun x j => x = a ∧ j = 14) V Z ∧ r.toInt = (zdr (zdo nu n (zub W n) (V.1 a 11) (V.1 a 13).toInt (zpc (zub W n)) (gC V T) W) (zD (V.1 T 6) A (gX V T) (V.1 a 7).toInt) (seed &&& 2147483647) times.toNatClampNeg).2 := by
  have h0 := h
  have hT := h.1.2.2.1
  have htk := h.1.2.1
  have ha := h.1.1
  have hl := h.1.2.2.2.2.1
  have hW := h.1.2.2.2.1.1
  have n1 := hT.2.1
  have n12 := hT.2.2.1
  have t5 := hT.2.2.2.2.1
  have t8 := hT.2.2.2.2.2.2.2.1
  have ha2 : 210 ≤ a := by rcases ha with rfl | rfl | rfl <;> omega
  obtain ⟨l1, l2, l3, l4⟩ := ln_rd ha
  have csb : 0 ≤ zs (gC V T) n ∧ zs (gC V T) n ≤ 12 * 99 := zs_bd n12 (fun i hi => by have := t5 i hi; omega) (by omega)
  have cpos : 0 < zs (gC V T) n := by
    have := zs_ge (f := gC V T) (n := n) (j := 0) (fun i hi => by have := t5 i hi; omega) (by omega)
    have := t5 0 (by omega)
    omega
  have et : times = Int32.ofNat times.toNatClampNeg := i32_nat ht.1
  have tn : times.toNatClampNeg ≤ 200 := by rw [clamp_int]; omega
  generalize htt : times.toNatClampNeg = N at *
  generalize hf : zdo nu n (zub W n) (V.1 a 11) (V.1 a 13).toInt (zpc (zub W n)) (gC V T) W = f
  have sb : ∀ k, k ≤ 200 → 0 ≤ (zdr f (zD (V.1 T 6) A (gX V T) (V.1 a 7).toInt) (seed &&& 2147483647) k).2 ∧ (zdr f (zD (V.1 T 6) A (gX V T) (V.1 a 7).toInt) (seed &&& 2147483647) k).2 ≤ k * 2560000 := by
    intro k
    induction k with
    | zero => intro _; show (0 : Int) ≤ 0 ∧ (0 : Int) ≤ _; omega
    | succ k ih =>
      intro hk
      have h1 := ih (by omega)
      have zw := zdo_w (nu := nu) (bl := V.1 a 11) (cl := (V.1 a 13).toInt) (z := (zdr f (zD (V.1 T 6) A (gX V T) (V.1 a 7).toInt) (seed &&& 2147483647) k).1) n1 cpos hW
      have zt := zdo_t (nu := nu) (n := n) (u := zub W n) (bl := V.1 a 11) (cl := (V.1 a 13).toInt) (un := zpc (zub W n)) (C := gC V T) (W := W) (z := (zdr f (zD (V.1 T 6) A (gX V T) (V.1 a 7).toInt) (seed &&& 2147483647) k).1)
      rw [hf] at zw zt
      rw [← zt] at zw
      have bx := t5 _ zw.2.2
      have bd := zD_bd (q := V.1 T 6) (A := A) (X := gX V T) (s := (V.1 a 7).toInt) (j := (f (zdr f (zD (V.1 T 6) A (gX V T) (V.1 a 7).toInt) (seed &&& 2147483647) k).1).2.1) (w := (f (zdr f (zD (V.1 T 6) A (gX V T) (V.1 a 7).toInt) (seed &&& 2147483647) k).1).2.2) (h.2.2 _ zw.1) ⟨bx.1, bx.2.1⟩ (by omega)
      show 0 ≤ _ + _ ∧ _ + _ ≤ _
      omega
  unfold f_63
  refine loop_ex (fun m (s : Int64 × Int32 × sU) => f_63_13 m a times s.1 s.2.1 s.2.2) (fun k s => s.2.1 = Int32.ofNat k ∧ Fr (fun x j => x = a ∧ j = 14) V s.2.2 ∧ s.2.2.1 a 14 = (zdr f (zD (V.1 T 6) A (gX V T) (V.1 a 7).toInt) (seed &&& 2147483647) k).1 ∧ s.1.toInt = (zdr f (zD (V.1 T 6) A (gX V T) (V.1 a 7).toInt) (seed &&& 2147483647) k).2) (fun o => ∃ r Z, o = some (r, Z) ∧ Fr (fun x j => x = a ∧ j = 14) V Z ∧ r.toInt = (zdr f (zD (V.1 T 6) A (gX V T) (V.1 a 7).toInt) (seed &&& 2147483647) N).2) N ?_ ?_ N 0 FU (0, 0, sI V a 14 (seed &&& 2147483647)) (by omega) (by unfold FU; omega) ⟨rfl, Fr.sI (Fr.rf _ _) _ ⟨rfl, rfl⟩, sI_at, rfl⟩
  · rintro k ⟨s, c, Z⟩ m hk ⟨rfl, hF, hz, hs⟩
    dsimp only at hF hz hs ⊢
    refine Or.inr ?_
    have hR := Rdy_fr h0 hF (fun x j q => by omega)
    have eX : gX Z T = gX V T := by funext i; unfold gX; rw [hF.1 _ _ (by omega)]
    have eC : gC Z T = gC V T := by funext i; unfold gC; rw [hF.1 _ _ (by omega)]
    have ht2 : tk Z a = T := hR.1.2.1
    obtain ⟨r, r1, r2⟩ := csum_c hR.1.2.2.1
    rw [eC] at r2
    obtain ⟨y, y1, y2, y3, y4⟩ := below_c hg (V := Z) (a := a) (x := r) (by omega)
    have f1 : Fr (fun x j => x = a ∧ j = 14) V (sI Z a 14 (nu (Z.1 a 14))) := Fr.sI hF _ ⟨rfl, rfl⟩
    generalize hZ1 : sI Z a 14 (nu (Z.1 a 14)) = Z1 at *
    have z14 : Z1.1 a 14 = nu (Z.1 a 14) := by rw [← hZ1, sI_at]
    have hR1 := Rdy_fr h0 f1 (fun x j q => by omega)
    have eC1 : gC Z1 T = gC V T := by funext i; unfold gC; rw [f1.1 _ _ (by omega)]
    have tr := truth_c (L := y) hR1.1.2.1 hR1.1.2.2.1 (by rw [eC1]; omega)
    rw [eC1, y2, r2] at tr
    have zw := zdo_w (nu := nu) (bl := V.1 a 11) (cl := (V.1 a 13).toInt) (z := Z.1 a 14) n1 cpos hW
    have zt := zdo_t (nu := nu) (n := n) (u := zub W n) (bl := V.1 a 11) (cl := (V.1 a 13).toInt) (un := zpc (zub W n)) (C := gC V T) (W := W) (z := Z.1 a 14)
    generalize htd : zdt n (gC V T) (lot (nu (Z.1 a 14)) (zs (gC V T) n)) = td at *
    have tdn : td < n := zw.2.2
    obtain ⟨Z2, h1, f2, z2⟩ := heard_c hg hR1.1 (hW td tdn)
    have e11 : Z1.1 a 11 = V.1 a 11 := f1.1 _ _ (by omega)
    have e13 : Z1.1 a 13 = V.1 a 13 := f1.1 _ _ (by omega)
    rw [z14, e11, e13] at h1 z2
    have f3 : Fr (fun x j => x = a ∧ j = 14) V Z2 := f1.tr f2
    have hR2 := Rdy_fr h0 f3 (fun x j q => by omega)
    have e7 : Z2.1 a 7 = V.1 a 7 := f3.1 _ _ (by omega)
    have e6 : Z2.1 T 6 = V.1 T 6 := f3.1 _ _ (by omega)
    have eX2 : gX Z2 T = gX V T := by funext i; unfold gX; rw [f3.1 _ _ (by omega)]
    -- the word and the next number are those of zdo
    have ew : (if V.1 a 11 = 0 then W td else if lot (nu (nu (Z.1 a 14))) 100 < (V.1 a 13).toInt then W td else zdw (zub W n) (lot (nu (nu (nu (Z.1 a 14)))) (zpc (zub W n)))) = (f (Z.1 a 14)).2.2 := by
      rw [← hf]
      unfold zdo
      rw [htd]
      split
      · rfl
      · split <;> rfl
    have ez : (if V.1 a 11 = 0 then nu (Z.1 a 14) else if lot (nu (nu (Z.1 a 14))) 100 < (V.1 a 13).toInt then nu (nu (Z.1 a 14)) else nu (nu (nu (Z.1 a 14)))) = (f (Z.1 a 14)).1 := by
      rw [← hf]
      unfold zdo
      split
      · rfl
      · split <;> rfl
    rw [hf] at zw zt
    rw [ew] at h1
    rw [ez] at z2
    obtain ⟨la, lb, lc⟩ := lossAt_ok hR2 tdn zw.1 zw.2.1 (s := V.1 a 7) (by omega)
    have lk := zl_1600 (q := Z2.1 T 6) lb lc
    rw [e6, eX2] at la lk
    have gW : iget (a + 1) (Int32.ofNat td) Z1 = Int32.ofNat (W td) := by rw [iget_k l1 (by omega)]; exact hR1.1.2.2.2.1.2.1 td tdn
    have sk := sb k (by omega)
    rw [f_63_13, et, if_neg (by rw [i32_le, ofNat_int (by omega), ofNat_int (by omega)]; omega), ht2, r1, Option.bind_some, y1, Option.bind_some]
    dsimp only
    rw [tr, Option.bind_some, gW, h1, Option.bind_some, e7, ofNat_succ]
    refine ⟨(s + f_52 a (Int32.ofNat td) (Int32.ofNat (f (Z.1 a 14)).2.2) (V.1 a 7) Z2, Int32.ofNat (k + 1), Z2), ⟨rfl, f3, ?_, ?_⟩, rfl⟩
    · show Z2.1 a 14 = (f (zdr f _ _ k).1).1
      rw [← hz, z2]
    · show _ = (zdr f _ _ k).2 + zD _ _ _ _ (f (zdr f _ _ k).1).2.1 (f (zdr f _ _ k).1).2.2
      rw [← hz, zt]
      dsimp only
      rw [a64 (by rw [hs, la]; omega) (by rw [hs, la]; omega), hs, la]
      rfl
  · rintro ⟨s, c, Z⟩ m ⟨rfl, hF, hz, hs⟩
    dsimp only at hF hz hs ⊢
    rw [f_63_13, et, if_pos (by rw [i32_le]; omega)]
    exact ⟨s, Z, rfl, hF, hs⟩
