/-! edge on both sides -/
def zgw (U : sU) (t n c : Nat) : Int := zdn (fun v => zok n (hDw U t n (zW c) 1 v) (zW c)) 64
def zed (U : sU) (t n kk : Nat) : Nat → Int
  | 0 => -1
  | c + 1 => if zpc c + 1 = kk ∧ zal U (5 + 5 * t) c = true then (if zed U t n kk c < zgw U t n c then zgw U t n c else zed U t n kk c) else zed U t n kk c
theorem zed_y {U : sU} {t n kk c : Nat} (h1 : zpc c + 1 = kk) (h2 : zal U (5 + 5 * t) c = true) : zed U t n kk (c + 1) = if zed U t n kk c < zgw U t n c then zgw U t n c else zed U t n kk c := if_pos ⟨h1, h2⟩
theorem zed_n {U : sU} {t n kk c : Nat} (h : ¬ (zpc c + 1 = kk ∧ zal U (5 + 5 * t) c = true)) : zed U t n kk (c + 1) = zed U t n kk c := if_neg h
theorem zed_bd {U : sU} {t n kk : Nat} : ∀ c, -1 ≤ zed U t n kk c ∧ zed U t n kk c ≤ 63 := by
  intro c
  induction c with
  | zero => unfold zed; omega
  | succ c ih =>
    have := zdn_bd (fun v => zok n (hDw U t n (zW c) 1 v) (zW c)) 64
    have e : zgw U t n c = zdn (fun v => zok n (hDw U t n (zW c) 1 v) (zW c)) 64 := rfl
    unfold zed
    split
    · split <;> omega
    · exact ih
theorem zed_mono {U : sU} {t n kk : Nat} : ∀ m c, zed U t n kk c ≤ zed U t n kk (c + m) := by
  intro m
  induction m with
  | zero => intro c; exact Int.le_refl _
  | succ m ih =>
    intro c
    have h1 := ih c
    have : zed U t n kk (c + m) ≤ zed U t n kk (c + m + 1) := by
      conv => rhs; unfold zed
      split
      · split <;> omega
      · exact Int.le_refl _
    have e : c + (m + 1) = c + m + 1 := rfl
    rw [e]
    omega
theorem zgw_same {U V : sU} (h : Same U V) {t n : Nat} (ht : t < 8) : zgw V t n = zgw U t n := by
  funext c
  have e : (fun v => zok n (hDw V t n (zW c) 1 v) (zW c)) = (fun v => zok n (hDw U t n (zW c) 1 v) (zW c)) := by
    funext v
    rw [hDw_same h ht]
  unfold zgw
  rw [e]
theorem zed_same {U V : sU} (h : Same U V) {t n kk : Nat} (ht : t < 8) : ∀ c, zed V t n kk c = zed U t n kk c := by
  intro c
  induction c with
  | zero => rfl
  | succ c ih =>
    have e : zal V (5 + 5 * t) c = zal U (5 + 5 * t) c := by unfold zal; rw [h.lo (by omega)]
    unfold zed
    rw [ih, zgw_same h ht, e]
theorem f74_eq {U V : sU} {t c kk : Nat} (h : V.1 (5 + 5 * t) 5 = U.1 (5 + 5 * t) 5) (hc : c < 4096) (hk : kk < 100) : (f_74 (5 + 5 * t) (Int32.ofNat c) (Int32.ofNat kk) V = 0) ↔ ¬ (zpc c + 1 = kk ∧ zal U (5 + 5 * t) c = true) := by
  have pl := zpc_le c
  unfold f_74
  rw [f282_eq hc, ofNat_succ, f104_eq h hc]
  by_cases e : zpc c + 1 = kk
  · rw [if_pos (by rw [e])]
    cases ha : zal U (5 + 5 * t) c with
    | true => rw [if_neg (by decide)]; exact ⟨fun q => absurd q (by decide), fun q => absurd ⟨e, rfl⟩ q⟩
    | false => rw [if_pos (by rfl)]; exact ⟨fun _ q => (by cases q.2), fun _ => rfl⟩
  · rw [if_neg (ofNat_ne (by omega) (by omega) e)]
    exact ⟨fun _ q => e q.1, fun _ => rfl⟩
theorem edge_c {U : sU} {t n kk : Nat} (hM : MT U t n) (hk : kk < 100) : ∃ r Z, f_75 232 (5 + 5 * t) (Int32.ofNat kk) U = some (r, Z) ∧ Same U Z ∧ r.toInt = zed U t n kk (2 ^ (n - 1)) := by
  have hT := hM.2.1
  have n12 := hT.2.2.1
  have hl := hM.2.2.2.2.1.2
  have hw := hM.2.2.2.1.2
  have t8 := hM.1
  have p2 := two_pow_le n12
  have s0 := Ss_take (U := U) (V := U) (a := 233) (T := 5 + 5 * t) (n := n) (l := U.1 (5 + 5 * t) 4) (w := U.1 (5 + 5 * t) 3) (Same.rf U) (Or.inr (Or.inl rfl)) hT hl (by omega)
  unfold f_75
  refine loop_ex (fun m (z : Int32 × Int32 × sU) => f_75_21 m 232 (5 + 5 * t) (Int32.ofNat kk) z.1 z.2.1 z.2.2) (fun k z => z.2.1 = Int32.ofNat k ∧ z.1.toInt = zed U t n kk k ∧ Ss U z.2.2 233 (5 + 5 * t) n (U.1 (5 + 5 * t) 4) (U.1 (5 + 5 * t) 3) 0 100) (fun o => ∃ r Z, o = some (r, Z) ∧ Same U Z ∧ r.toInt = zed U t n kk (2 ^ (n - 1))) (2 ^ (n - 1)) ?_ ?_ (2 ^ (n - 1)) 0 FU (-1, 0, _) (by omega) (by unfold FU; omega) ⟨rfl, rfl, s0⟩
  · rintro k ⟨b, c, Z⟩ m hk' ⟨rfl, hb, hS⟩
    dsimp only at hb hS ⊢
    refine Or.inr ?_
    have e2 : Z.1 (5 + 5 * t) 2 = Int32.ofNat n := (hS.1.lo (by omega)).trans hT.1
    have e5 : Z.1 (5 + 5 * t) 5 = U.1 (5 + 5 * t) 5 := hS.1.lo (by omega)
    rw [f_75_21, f103_eq e2 hT.2.1 n12, if_neg (by rw [i32_le, ofNat_int (by omega), ofNat_int (by omega)]; omega), ofNat_succ]
    by_cases hr : zpc k + 1 = kk ∧ zal U (5 + 5 * t) k = true
    · rw [if_neg (fun q => (f74_eq e5 (by omega) hk).mp q hr)]
      obtain ⟨V1, V2, a1, a2, a3, a4, a5⟩ := run_c hS (by omega : k < 2048)
      obtain ⟨r, r1, r2⟩ := wish_ok a5 (Bw_W hT.2.1 n12)
      have er : r.toInt = zgw U t n k := by
        rw [r2, zAc_0, a4.1.lo (by omega : 5 + 5 * t < 210), (same_XC a4.1 (T := 5 + 5 * t) (by omega)).1]
        unfold zgw
        congr 1
      have a1 : f_39 (232 + 1) (Int32.ofNat k) Z = some V1 := a1
      have a2 : f_41 (232 + 1) V1 = some V2 := a2
      have r1 : f_60 (232 + 1) V2 = some r := r1
      rw [a1, Option.bind_some, a2, Option.bind_some, r1, Option.bind_some]
      refine ⟨(f_286 b r V2, Int32.ofNat (k + 1), V2), ⟨rfl, ?_, a4⟩, rfl⟩
      dsimp only
      rw [f286_int, hb, er, zed_y hr.1 hr.2]
    · rw [if_pos ((f74_eq e5 (by omega) hk).mpr hr)]
      exact ⟨(b, Int32.ofNat (k + 1), Z), ⟨rfl, by dsimp only; rw [zed_n hr]; exact hb, hS⟩, rfl⟩
  · rintro ⟨b, c, Z⟩ m ⟨rfl, hb, hS⟩
    dsimp only at hb hS ⊢
    have e2 : Z.1 (5 + 5 * t) 2 = Int32.ofNat n := (hS.1.lo (by omega)).trans hT.1
    rw [f_75_21, f103_eq e2 hT.2.1 n12, if_pos (by rw [i32_le]; omega)]
    exact ⟨b, Z, rfl, hS.1, hb⟩
/-- from 63 down to what is found -/
theorem down_m {U V : sU} {t n c kk : Nat} (hM : MT U t n) (hS : Same U V) (hB : Bk V n (zW c) (zW c (n - 1) + 1)) (hd : Hd U V t n (zW c) (zW c (n - 1) + 1)) {x best v4 : Int32} (hx : x.toInt = t) (hb : -1 ≤ best.toInt ∧ best.toInt ≤ 63) (k49 : Int32 → Int32 → Int32 → Int32 → sU → Option (Int32 × sU)) : ∃ r : Int32, f_250_93 k49 FU x (Int32.ofNat kk) best v4 63 V = k49 x (Int32.ofNat kk) r (v4 + 1) V ∧ r.toInt = if best.toInt < zgw U t n c then zgw U t n c else best.toInt := by
  have hT := hM.2.1
  have hW := Bw_W (c := c) hT.2.1 hT.2.2.1
  have em1 : ((-1) : Int32).toInt = -1 := rfl
  have gb := zdn_bd (fun v => zok n (hDw U t n (zW c) 1 v) (zW c)) 64
  have eg : zgw U t n c = zdn (fun v => zok n (hDw U t n (zW c) 1 v) (zW c)) 64 := rfl
  refine loop_ex (fun m (s : Int32) => f_250_93 k49 m x (Int32.ofNat kk) best v4 s V) (fun i s => s.toInt = 63 - i ∧ best.toInt ≤ s.toInt ∧ zgw U t n c = zdn (fun v => zok n (hDw U t n (zW c) 1 v) (zW c)) (64 - i)) (fun o => ∃ r : Int32, o = k49 x (Int32.ofNat kk) r (v4 + 1) V ∧ r.toInt = if best.toInt < zgw U t n c then zgw U t n c else best.toInt) 64 ?_ ?_ 64 0 FU 63 (by omega) (by unfold FU; omega) ⟨rfl, by have : (63 : Int32).toInt = 63 := rfl; omega, rfl⟩
  · rintro i s m hi ⟨hs, hbs, hz⟩
    rw [f_250_93]
    have gb2 := zdn_bd (fun v => zok n (hDw U t n (zW c) 1 v) (zW c)) (64 - i)
    by_cases c1 : s ≤ best
    · rw [if_pos c1]
      rw [i32_le] at c1
      refine Or.inl ⟨s, rfl, ?_⟩
      have es : s.toInt = best.toInt := by omega
      rw [es]
      by_cases c3 : best.toInt < zgw U t n c
      · rw [if_pos c3]
        omega
      · rw [if_neg c3]
    · rw [if_neg c1]
      rw [i32_le] at c1
      rw [stands_m hM hS hB hd hW hx (s := s) (who := 1) (by omega) (Or.inl rfl), Option.bind_some]
      obtain ⟨j, hj⟩ : ∃ j, 64 - i = j + 1 := ⟨63 - i, by omega⟩
      have ej : ((j : Nat) : Int) = s.toInt := by omega
      cases hst : zok n (hDw U t n (zW c) 1 s.toInt) (zW c) with
      | true =>
        rw [if_neg (by decide)]
        refine Or.inl ⟨s, rfl, ?_⟩
        have : zgw U t n c = s.toInt := by
          rw [hz, hj, zdn_top (by rw [ej]; exact hst), ej]
        rw [this, if_pos (by omega)]
      | false =>
        rw [if_pos (by rfl)]
        refine Or.inr ⟨s + (-1), ⟨?_, ?_, ?_⟩, rfl⟩
        · rw [a32 (by rw [em1]; omega) (by rw [em1]; omega), em1]; omega
        · rw [a32 (by rw [em1]; omega) (by rw [em1]; omega), em1]; omega
        · rw [hz, hj, zdn_cong (by rw [ej]; exact hst), show 64 - (i + 1) = j by omega]
  · rintro s m ⟨hs, hbs, hz⟩
    rw [f_250_93]
    have c1 : s ≤ best := by rw [i32_le]; omega
    rw [if_pos c1]
    refine ⟨s, rfl, ?_⟩
    have hz' : zgw U t n c = -1 := hz
    rw [if_neg (by omega)]
    omega
theorem edge_m {U : sU} {t n kk : Nat} (hM : MT U t n) {x : Int32} (hx : x.toInt = t) (hk : (kk : Int) ≤ (U.1 (5 + 5 * t) 5).toInt) : ∃ r Z, f_250_49 FU x (Int32.ofNat kk) (-1) 0 U = some (r, Z) ∧ Same U Z ∧ r.toInt = zed U t n kk (2 ^ (n - 1)) := by
  have hT := hM.2.1
  have n12 := hT.2.2.1
  have n1 := hT.2.1
  have hwd := hT.2.2.2.2.2.2.1
  have t8 := hM.1
  have p2 := two_pow_le n12
  have e63 : (63 : Int32).toInt = 63 := rfl
  refine loop_ex (fun m (z : Int32 × Int32 × sU) => f_250_49 m x (Int32.ofNat kk) z.1 z.2.1 z.2.2) (fun k z => z.2.1 = Int32.ofNat k ∧ z.1.toInt = zed U t n kk k ∧ Same U z.2.2) (fun o => ∃ r Z, o = some (r, Z) ∧ Same U Z ∧ r.toInt = zed U t n kk (2 ^ (n - 1))) (2 ^ (n - 1)) ?_ ?_ (2 ^ (n - 1)) 0 FU (-1, 0, U) (by omega) (by unfold FU; omega) ⟨rfl, rfl, Same.rf U⟩
  · rintro k ⟨b, c, Z⟩ m hk' ⟨rfl, hb, hS⟩
    dsimp only at hb hS ⊢
    have hZ := MT_same hM hS
    have pl := zpc_le k
    have zb := zed_bd (U := U) (t := t) (n := n) (kk := kk) k
    rw [f_250_49, f239_m hZ hx, Option.bind_some, if_neg (by rw [i32_le, ofNat_int (by omega), ofNat_int (by omega)]; omega)]
    by_cases c63 : 63 ≤ b
    · rw [if_pos c63]
      rw [i32_le, e63] at c63
      refine Or.inl ⟨b, Z, rfl, hS, ?_⟩
      have m1 := zed_mono (U := U) (t := t) (n := n) (kk := kk) (2 ^ (n - 1) - k) k
      have m2 := zed_bd (U := U) (t := t) (n := n) (kk := kk) (2 ^ (n - 1))
      rw [show k + (2 ^ (n - 1) - k) = 2 ^ (n - 1) by omega] at m1
      omega
    · rw [if_neg c63, f214_eq (by omega : k < 4096), Option.bind_some, ofNat_succ]
      refine Or.inr ?_
      by_cases hr : zpc k + 1 = kk
      · have ha : zal U (5 + 5 * t) k = true := decide_eq_true (by omega)
        rw [if_pos (by rw [hr])]
        obtain ⟨V1, a1, a2, a3⟩ := parts_m hZ hx (by omega : k < 2048)
        obtain ⟨V2, b1, b2, b3, b4⟩ := hears_m (MT_same hZ a2) hx a3 (Bw_W n1 n12)
        have hS2 : Same U V2 := (hS.tr a2).tr b2
        have s1 : Same U V1 := hS.tr a2
        have hd : Hd U V2 t n (zW k) (zW k (n - 1) + 1) := by
          refine ⟨fun w hw => ?_, fun h7 w hw => ?_⟩
          · rw [b4.1 w hw, hH_same s1 (by omega), s1.lo (by omega : 5 + 5 * t < 210)]
          · rw [b4.2 (by rw [s1.lo (by omega : 5 + 5 * t < 210)]; exact h7) w hw, hH_same s1 (by omega), s1.lo (by omega : 5 + 5 * t < 210)]
        obtain ⟨r, r1, r2⟩ := down_m (kk := kk) (v4 := Int32.ofNat k) hM hS2 b3 hd hx (best := b) (by omega) (fun v1 v2 v3 v4 U => f_250_49 m v1 v2 v3 v4 U)
        rw [a1, Option.bind_some, b1, Option.bind_some, r1, ofNat_succ]
        refine ⟨(r, Int32.ofNat (k + 1), V2), ⟨rfl, ?_, hS2⟩, rfl⟩
        dsimp only
        rw [r2, hb, zed_y hr ha]
      · rw [if_neg (ofNat_ne (by omega) (by omega) hr), ofNat_succ]
        exact ⟨(b, Int32.ofNat (k + 1), Z), ⟨rfl, by dsimp only; rw [zed_n (fun q => hr q.1)]; exact hb, hS⟩, rfl⟩
  · rintro ⟨b, c, Z⟩ m ⟨rfl, hb, hS⟩
    dsimp only at hb hS ⊢
    rw [f_250_49, f239_m (MT_same hM hS) hx, Option.bind_some, if_pos (by rw [i32_le]; omega)]
    exact ⟨b, Z, rfl, hS, hb⟩
theorem f169_iff {v : Int32} {U : sU} : f_169 v U = 0 ↔ ¬ (1 ≤ v.toInt ∧ v.toInt ≤ 12) := by
  have e1 : (1 : Int32).toInt = 1 := rfl
  have e2 : (12 : Int32).toInt = 12 := rfl
  unfold f_169
  by_cases h1 : v < 1
  · rw [if_pos h1]; rw [i32_lt, e1] at h1
    exact ⟨fun _ => by omega, fun _ => rfl⟩
  rw [if_neg h1]; rw [i32_lt, e1] at h1
  by_cases h2 : 12 < v
  · rw [if_pos h2]; rw [i32_lt, e2] at h2
    exact ⟨fun _ => by omega, fun _ => rfl⟩
  rw [if_neg h2]; rw [i32_lt, e2] at h2
  exact ⟨fun q => absurd q (by decide), fun q => absurd (by omega) q⟩
/-- no run has more words than there may be -/
theorem zed_big {U : sU} {t n kk : Nat} (h : (U.1 (5 + 5 * t) 5).toInt < kk) : ∀ c, zed U t n kk c = -1 := by
  intro c
  induction c with
  | zero => rfl
  | succ c ih =>
    rw [zed_n, ih]
    rintro ⟨h1, h2⟩
    unfold zal at h2
    have := of_decide_eq_true h2
    omega
theorem st_edge {U : sU} (h : Inv U) (x y : Int32) : Two (f_142 x y U) (f_250 x y) := by
  have h0 := h
  have e1' : (1 : Int32).toInt = 1 := rfl
  have e2' : (12 : Int32).toInt = 12 := rfl
  have em1 : ((-1) : Int32).toInt = -1 := rfl
  obtain ⟨nT, nM, h⟩ := h
  have n8 := h.1.1.2.2.1
  have r0 : ∀ w : Int32, (1 ≤ w.toInt ∧ w.toInt ≤ 7) → (f_159 w U).2.1 280 0 = Int32.ofNat nT := fun w hw => (f159_1 hw (by decide)).trans h.1.2.1
  by_cases hx : 0 ≤ x.toInt ∧ x.toInt < nT
  case neg => exact ten_to h0 (w := 1) (by decide) (by unfold f_142; rw [tat_no h hx]) (by unfold f_250; rw [if_pos (f178_no (r0 1 (by decide)) n8 hx)])
  obtain ⟨e1, e2, e3, e4, _⟩ := tat_yes h hx
  obtain ⟨n, hM⟩ := MT_of h e2
  have t8 := hM.1
  have i8 : ib x 8 := ib_int.mpr (by omega)
  by_cases hy : 1 ≤ y.toInt ∧ y.toInt ≤ 12
  case neg =>
    refine ten_to h0 (w := 6) (by decide) (by unfold f_142; rw [e1]; dsimp only; rw [if_pos (f169_iff.mpr hy)]) ?_
    unfold f_250
    rw [if_neg (f178_yes (r0 6 (by decide)) n8 hx)]
    by_cases y0 : y < 1
    · rw [if_pos y0]
    · rw [if_neg y0]
      rw [i32_lt, e1'] at y0
      rw [if_neg (by rw [i32_le, e2']; omega)]
  have ey : y = Int32.ofNat y.toNatClampNeg := i32_nat (by omega)
  have yk : (y.toNatClampNeg : Int) = y.toInt := by rw [clamp_int]; omega
  refine two_i h0 (v := zed U x.toNatClampNeg n y.toNatClampNeg (2 ^ (n - 1))) ?_ ?_
  · obtain ⟨r, Z, r1, r2, r3⟩ := edge_c hM (kk := y.toNatClampNeg) (by omega)
    rw [← ey] at r1
    unfold f_142
    rw [e1]
    dsimp only
    rw [if_neg (fun q => f169_iff.mp q hy), r1]
    exact ⟨r, Z, rfl, r2, r3⟩
  · intro Y hY
    have hMY := MT_same hM hY
    unfold f_250
    rw [if_neg (f178_yes (InvN_same hY h).1.2.1 n8 hx), if_neg (by rw [i32_lt, e1']; omega), if_pos (by rw [i32_le, e2']; omega), if_pos i8, hMY.2.2.2.2.2.1, hY.lo (by omega : 5 + 5 * x.toNatClampNeg < 210)]
    by_cases c : y ≤ U.1 (5 + 5 * x.toNatClampNeg) 5
    · rw [if_pos c]
      rw [i32_le] at c
      obtain ⟨r, Z, r1, r2, r3⟩ := edge_m hMY e4 (kk := y.toNatClampNeg) (by rw [hY.lo (by omega : 5 + 5 * x.toNatClampNeg < 210)]; omega)
      rw [← ey] at r1
      rw [r1]
      exact ⟨r, Z, rfl, r2, r3.trans (zed_same hY t8 _)⟩
    · rw [if_neg c]
      rw [i32_le] at c
      exact ⟨-1, Y, rfl, Same.rf Y, by rw [em1, zed_big (by omega)]⟩
