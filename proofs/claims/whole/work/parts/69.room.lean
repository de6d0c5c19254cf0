/-! room: two who hear -/
theorem Rdy_fr {P : Nat → Nat → Prop} {V Z : sU} {a T n : Nat} {W : Nat → Nat} {A : Nat → Int} (h : Rdy V a T n W A) (hF : Fr P V Z) (hP : ∀ x j, P x j → 210 ≤ x ∧ x ≠ a + 2 ∧ x ≠ a + 4 ∧ (x = a → j ≠ 7 ∧ j ≠ 8 ∧ j ≠ 9 ∧ j ≠ 10 ∧ j ≠ 11 ∧ j ≠ 13)) : Rdy Z a T n W A := by
  obtain ⟨R1, _⟩ := Rd_fr h.1 hF (fun x j q => ⟨(hP x j q).1, (hP x j q).2.1, (hP x j q).2.2.2⟩)
  refine ⟨R1, fun w hw hu => ?_, h.2.2⟩
  rw [hF.1 _ _ (fun q => (hP _ _ q).2.2.1 rfl)]
  exact h.2.1 w hw hu
theorem Ss_take2 {U V : sU} {a b T n S : Nat} {l w bl cl l2 w2 : Int32} (h : Ss U V a T n l w bl cl) (hb : rdA b) (hab : a ≠ b) (hs : sh S = 8) : Ss U (f_35 b S l2 w2 V) a T n l w bl cl := by
  obtain ⟨s1, s2, s3, s4, s5, s6, s7, s8, s9⟩ := h
  obtain ⟨_, _, _, _, _, _, _, k8, k9, k10⟩ := take_ok (U := V) (a := b) (T := S) (n := 0) (l := l2) (w := w2) (W := fun _ => 0) hs (fun i hi => by omega)
  exact ⟨s1.tr (take_same hb hs), s2, (k10 a hab).trans s3, s4, (k8 _ _ hab).trans s5, (k8 _ _ hab).trans s6, (k8 _ _ hab).trans s7, (k8 _ _ hab).trans s8, s9⟩
theorem hDw_3 {U : sU} {t n : Nat} {W : Nat → Nat} {s : Int} {j w : Nat} : hDw U t n W 3 s j w = zD (U.1 (5 + 5 * t) 6) (hH U (5 + 5 * t) n W (U.1 (5 + 5 * t) 4).toInt) (gX U (5 + 5 * t)) s j w + zD (U.1 (5 + 5 * t) 6) (hH U (5 + 5 * t) n W (U.1 (5 + 5 * t) 8).toInt) (gX U (5 + 5 * t)) (U.1 (5 + 5 * t) 9).toInt j w := by
  unfold hDw
  rw [if_neg (by decide), if_neg (by decide)]
  rfl
theorem both_in {V : sU} {n b j : Nat} {W : Nat → Nat} {D : Nat → Nat → Int} (h9 : V.1 233 9 = Int32.ofNat (zub W n)) (hW : Bw n W b) (hq : zub W n < 4096) (hj : j < n) (hD : ∀ w, w < b → (f_55 233 (Int32.ofNat j) (Int32.ofNat w) V + f_55 247 (Int32.ofNat j) (Int32.ofNat w) V).toInt = D j w) (k32 : Nat → Int32 → Int32 → sU → Option (Int32 × sU)) (v2 : Int32) {own : Int64} (ho : own.toInt = D j (W j)) : f_77_73 k32 FU 232 v2 (Int32.ofNat j) own 0 V = match zlw (zub W n) D W j with | none => k32 232 v2 (Int32.ofNat j + 1) V | some _ => some (0, V) := by
  have e12 : (12 : Int32).toInt = 12 := rfl
  generalize hp : (fun w => (zub W n).testBit w && decide (D j w < D j (W j))) = p
  have hz : zlw (zub W n) D W j = zf p 12 0 := by rw [← hp]; rfl
  rw [hz]
  refine loop_ex (fun m (c : Int32) => f_77_73 k32 m 232 v2 (Int32.ofNat j) own c V) (fun i c => c = Int32.ofNat i ∧ ∀ v, 0 ≤ v → v < i → p v = false) (fun o => o = match zf p 12 0 with | none => k32 232 v2 (Int32.ofNat j + 1) V | some _ => some (0, V)) 12 ?_ ?_ 12 0 FU 0 (by omega) (by unfold FU; omega) ⟨rfl, fun v _ hv => by omega⟩
  · rintro i c m hi ⟨rfl, hno⟩
    have next : p i = false → ∃ s', (s' = Int32.ofNat (i + 1) ∧ ∀ v, 0 ≤ v → v < i + 1 → p v = false) ∧ f_77_73 k32 m 232 v2 (Int32.ofNat j) own (Int32.ofNat i + 1) V = f_77_73 k32 m 232 v2 (Int32.ofNat j) own s' V := by
      intro hpk
      refine ⟨_, ⟨rfl, fun v _ hv => ?_⟩, by rw [ofNat_succ]⟩
      by_cases e : v = i
      · subst e; exact hpk
      · exact hno v (by omega) (by omega)
    have h9' : V.1 (232 + 1) 9 = Int32.ofNat (zub W n) := h9
    rw [f_77_73, if_neg (by rw [i32_le, e12, ofNat_int (by omega)]; omega), f43_eq h9' hq hi]
    by_cases htb : (zub W n).testBit i = true
    · rw [if_pos htb, if_neg (by decide)]
      have r2 := hD i ((Bw_used hW).mp htb)
      by_cases hlt : D j i < D j (W j)
      · rw [if_neg (by rw [cmp_ge, ho]; rw [show (232 + 1 : Nat) = 233 from rfl, show (232 + 15 : Nat) = 247 from rfl, r2]; omega)]
        have hf : zf p 12 0 = some i := zf_eq (by omega) (by omega) (by rw [← hp]; dsimp only; rw [htb, decide_eq_true hlt]; rfl) hno
        rw [hf]
        exact Or.inl rfl
      · rw [if_pos (by rw [cmp_ge, ho]; rw [show (232 + 1 : Nat) = 233 from rfl, show (232 + 15 : Nat) = 247 from rfl, r2]; omega)]
        exact Or.inr (next (by rw [← hp]; dsimp only; rw [decide_eq_false hlt, Bool.and_false]))
    · rw [if_neg htb, if_pos rfl]
      exact Or.inr (next (by rw [← hp]; dsimp only; rw [eq_false_of_ne_true htb]; rfl))
  · rintro c m ⟨rfl, hno⟩
    have hf : zf p 12 0 = none := zf_none.mpr (fun w h1 hw => hno w h1 (by omega))
    rw [f_77_73, if_pos (by rw [i32_le, e12, ofNat_int (by omega)]; omega), hf]
theorem both_c {U V : sU} {t n c : Nat} (hM : MT U t n) (h1 : Ss U V 233 (5 + 5 * t) n (U.1 (5 + 5 * t) 4) (U.1 (5 + 5 * t) 3) 0 100) (h2 : Ss U V 247 (5 + 5 * t) n (U.1 (5 + 5 * t) 8) (U.1 (5 + 5 * t) 9) 0 100) (hc : c < 2048) : ∃ Z, f_77 232 (Int32.ofNat c) (Int32.ofNat n) V = some (if zok n (hDw U t n (zW c) 3 (U.1 (5 + 5 * t) 3).toInt) (zW c) then 1 else 0, Z) ∧ Ss U Z 233 (5 + 5 * t) n (U.1 (5 + 5 * t) 4) (U.1 (5 + 5 * t) 3) 0 100 ∧ Ss U Z 247 (5 + 5 * t) n (U.1 (5 + 5 * t) 8) (U.1 (5 + 5 * t) 9) 0 100 := by
  have hT := hM.2.1
  have n12 := hT.2.2.1
  have t8 := hM.1
  have hWB := Bw_W (c := c) hT.2.1 n12
  obtain ⟨V1, V2, a1, a2, a3, a4, a5⟩ := run_c h1 hc
  have h2' := Ss_fr h2 a3 (fun x j q => ⟨Pq_scr (Or.inr (Or.inl rfl)) q, by unfold Pq at q; omega⟩)
  obtain ⟨V3, V4, b1, b2, b3, b4, b5⟩ := run_c h2' hc
  have a4' := Ss_fr a4 b3 (fun x j q => ⟨Pq_scr (Or.inr (Or.inr rfl)) q, by unfold Pq at q; omega⟩)
  have a5' := Rdy_fr a5 b3 (fun x j q => by unfold Pq at q; omega)
  rw [zAc_0] at a5' b5
  refine ⟨V4, ?_, a4', b4⟩
  unfold f_77
  have a1 : f_39 (232 + 1) (Int32.ofNat c) V = some V1 := a1
  have a2 : f_41 (232 + 1) V1 = some V2 := a2
  have b1 : f_39 (232 + 15) (Int32.ofNat c) V2 = some V3 := b1
  have b2 : f_41 (232 + 15) V3 = some V4 := b2
  rw [a1, Option.bind_some, a2, Option.bind_some, b1, Option.bind_some, b2, Option.bind_some]
  have eq6 : V4.1 (5 + 5 * t) 6 = U.1 (5 + 5 * t) 6 := a4'.1.lo (by omega)
  have eX := (same_XC a4'.1 (T := 5 + 5 * t) (by omega)).1
  have hwi := a5'.1.2.2.2.2.2.1
  have hwi2 := b5.1.2.2.2.2.2.1
  have hD : ∀ j, j < n → ∀ w, w < zW c (n - 1) + 1 → (f_55 233 (Int32.ofNat j) (Int32.ofNat w) V4 + f_55 247 (Int32.ofNat j) (Int32.ofNat w) V4).toInt = hDw U t n (zW c) 3 (U.1 (5 + 5 * t) 3).toInt j w := by
    intro j hj w hw
    have w12 : w < 12 := by have := hWB.2.1; omega
    have hu : (zub (zW c) n).testBit w = true := (Bw_used hWB).mpr hw
    obtain ⟨x1, x2, x3⟩ := lossAt_ok a5' hj w12 hu hwi
    obtain ⟨y1, y2, y3⟩ := lossAt_ok b5 hj w12 hu hwi2
    have k1 := zl_1600 (q := V4.1 (5 + 5 * t) 6) x2 x3
    have k2 := zl_1600 (q := V4.1 (5 + 5 * t) 6) y2 y3
    have x1 : (f_55 233 (Int32.ofNat j) (Int32.ofNat w) V4).toInt = _ := x1
    have y1 : (f_55 247 (Int32.ofNat j) (Int32.ofNat w) V4).toInt = _ := y1
    rw [a64 (by rw [x1, y1]; omega) (by rw [x1, y1]; omega), x1, y1, hDw_3]
    unfold zD
    rw [eq6, eX, a4'.2.2.2.2.2.1, b4.2.2.2.2.2.1]
  have hq := zub_lt (W := zW c) (n := n) (fun i hi => by have := hWB.2.2.1 i hi; have := hWB.2.1; omega)
  have h9 := a5'.1.2.2.2.1.2.2.1
  refine loop_ex (fun m (s : Int32) => f_77_32 m 232 (Int32.ofNat n) s V4) (fun i s => s = Int32.ofNat i ∧ ∀ j, 0 ≤ j → j < i → (zlw (zub (zW c) n) (hDw U t n (zW c) 3 (U.1 (5 + 5 * t) 3).toInt) (zW c) j).isSome = false) (fun o => o = some (if zok n (hDw U t n (zW c) 3 (U.1 (5 + 5 * t) 3).toInt) (zW c) then 1 else 0, V4)) n ?_ ?_ n 0 FU 0 (by omega) (by unfold FU; omega) ⟨rfl, fun j _ hj => by omega⟩
  · rintro i s m hi ⟨rfl, hno⟩
    have wi := hWB.2.2.1 i hi
    have gW : f_45 (232 + 1) (Int32.ofNat i) V4 = Int32.ofNat (zW c i) := by
      unfold f_45
      rw [iget_k (by decide +kernel) (by omega)]
      exact a5'.1.2.2.2.1.2.1 i hi
    rw [f_77_32, if_neg (fun q => by have := (ofNat_le (by omega) (by omega)).mp q; omega), gW, both_in h9 hWB hq hi (hD i hi) _ _ (hD i hi (zW c i) wi)]
    cases hz : zlw (zub (zW c) n) (hDw U t n (zW c) 3 (U.1 (5 + 5 * t) 3).toInt) (zW c) i with
    | none =>
      dsimp only
      refine Or.inr ⟨_, ⟨rfl, fun j _ hj => ?_⟩, by rw [ofNat_succ]⟩
      by_cases e : j = i
      · subst e; rw [hz]; rfl
      · exact hno j (by omega) (by omega)
    | some w =>
      dsimp only
      have hf : zf (fun t_1 => (zlw (zub (zW c) n) (hDw U t n (zW c) 3 (U.1 (5 + 5 * t) 3).toInt) (zW c) t_1).isSome) n 0 = some i := zf_eq (by omega) (by omega) (by rw [hz]; rfl) hno
      have hl : zlie n (zub (zW c) n) (hDw U t n (zW c) 3 (U.1 (5 + 5 * t) 3).toInt) (zW c) = 100 * i + w := by
        unfold zlie
        rw [hf]
        dsimp only
        rw [hz]
      have hk : zok n (hDw U t n (zW c) 3 (U.1 (5 + 5 * t) 3).toInt) (zW c) = false := decide_eq_false (by rw [hl]; omega)
      rw [hk]
      exact Or.inl rfl
  · rintro s m ⟨rfl, hno⟩
    have hf : zf (fun t_1 => (zlw (zub (zW c) n) (hDw U t n (zW c) 3 (U.1 (5 + 5 * t) 3).toInt) (zW c) t_1).isSome) n 0 = none := zf_none.mpr (fun w h1 hw => hno w h1 (by omega))
    have hl : zlie n (zub (zW c) n) (hDw U t n (zW c) 3 (U.1 (5 + 5 * t) 3).toInt) (zW c) = -1 := by
      unfold zlie
      rw [hf]
    have hk : zok n (hDw U t n (zW c) 3 (U.1 (5 + 5 * t) 3).toInt) (zW c) = true := decide_eq_true hl
    rw [f_77_32, if_pos ((ofNat_le (by omega) (by omega)).mpr (Nat.le_refl _)), hk]
    rfl
theorem room_c {U : sU} {t n : Nat} (hM : MT U t n) : ∃ Z, f_76 232 (5 + 5 * t) U = some (Int32.ofNat (zpc (zfi (zp U t n 3 (U.1 (5 + 5 * t) 3).toInt) (2 ^ (n - 1) - 1)) + 1), Z) ∧ Same U Z := by
  have hT := hM.2.1
  have n12 := hT.2.2.1
  have hl := hM.2.2.2.2.1.2
  have hw := hM.2.2.2.1.2
  have hl2 := hM.2.2.2.2.2.2.2.2.1.2
  have hw2 := hM.2.2.2.2.2.2.2.2.2.1.2
  have t8 := hM.1
  have p2 := two_pow_le n12
  have p1 := Nat.two_pow_pos (n - 1)
  have sT := hT.2.2.2.2.2.2.2.2.2.2
  have s0 := Ss_take (U := U) (V := U) (a := 233) (T := 5 + 5 * t) (n := n) (l := U.1 (5 + 5 * t) 4) (w := U.1 (5 + 5 * t) 3) (Same.rf U) (Or.inr (Or.inl rfl)) hT hl (by omega)
  have s1 := Ss_take (U := U) (a := 247) (T := 5 + 5 * t) (n := n) (l := U.1 (5 + 5 * t) 8) (w := U.1 (5 + 5 * t) 9) s0.1 (Or.inr (Or.inr rfl)) hT hl2 (by omega)
  have s2 := Ss_take2 (l2 := U.1 (5 + 5 * t) 8) (w2 := U.1 (5 + 5 * t) 9) s0 (Or.inr (Or.inr rfl)) (by decide : 233 ≠ 247) sT
  have e8 : (f_35 (232 + 1) (5 + 5 * t) (U.1 (5 + 5 * t) 4) (U.1 (5 + 5 * t) 3) U).1 (5 + 5 * t) 8 = U.1 (5 + 5 * t) 8 := s0.1.lo (by omega)
  have e9 : (f_35 (232 + 1) (5 + 5 * t) (U.1 (5 + 5 * t) 4) (U.1 (5 + 5 * t) 3) U).1 (5 + 5 * t) 9 = U.1 (5 + 5 * t) 9 := s0.1.lo (by omega)
  generalize hp : zp U t n 3 (U.1 (5 + 5 * t) 3).toInt = p
  unfold f_76
  rw [e8, e9]
  refine loop_ex (fun m (s : Int32 × Int32 × sU) => f_76_36 m 232 (5 + 5 * t) s.1 s.2.1 s.2.2) (fun k s => s.2.1 = Int32.ofNat (k + 1) ∧ s.1 = Int32.ofNat (zpc (zfi p k) + 1) ∧ Ss U s.2.2 233 (5 + 5 * t) n (U.1 (5 + 5 * t) 4) (U.1 (5 + 5 * t) 3) 0 100 ∧ Ss U s.2.2 247 (5 + 5 * t) n (U.1 (5 + 5 * t) 8) (U.1 (5 + 5 * t) 9) 0 100) (fun o => ∃ Z, o = some (Int32.ofNat (zpc (zfi p (2 ^ (n - 1) - 1)) + 1), Z) ∧ Same U Z) (2 ^ (n - 1) - 1) ?_ ?_ (2 ^ (n - 1) - 1) 0 FU (1, 1, _) (by omega) (by unfold FU; omega) ⟨rfl, by show (1 : Int32) = Int32.ofNat (zpc 0 + 1); rw [(by decide : zpc 0 = 0)]; rfl, s2, s1⟩
  · rintro k ⟨b, c, Z⟩ m hk ⟨rfl, rfl, hS, hS2⟩
    dsimp only at hS hS2 ⊢
    refine Or.inr ?_
    have e2 : Z.1 (5 + 5 * t) 2 = Int32.ofNat n := (hS.1.lo (by omega)).trans hT.1
    have e5 : Z.1 (5 + 5 * t) 5 = U.1 (5 + 5 * t) 5 := hS.1.lo (by omega)
    have fl := zfi_le (p := p) k
    have q1 := zpc_le (k + 1)
    have q2 := zpc_le (zfi p k)
    rw [f_76_36, f103_eq e2 hT.2.1 n12, if_neg (by rw [i32_le, ofNat_int (by omega), ofNat_int (by omega)]; omega), f282_eq (by omega : k + 1 < 4096), ofNat_succ, ofNat_succ]
    by_cases hf : zpc (zfi p k) < zpc (k + 1)
    · rw [if_neg (by rw [i32_le, ofNat_int (by omega), ofNat_int (by omega)]; omega), f104_eq e5 (by omega)]
      cases ha : zal U (5 + 5 * t) (k + 1) with
      | false =>
        rw [if_pos (by rfl)]
        have pk : p (k + 1) = false := by rw [← hp]; unfold zp; rw [ha]; rfl
        exact ⟨(Int32.ofNat (zpc (zfi p k) + 1), Int32.ofNat (k + 1 + 1), Z), ⟨rfl, by dsimp only; rw [zfi_n2 pk], hS, hS2⟩, rfl⟩
      | true =>
        rw [if_neg (by decide), e2]
        obtain ⟨V2, r1, r2, r3⟩ := both_c hM hS hS2 (by omega : k + 1 < 2048)
        rw [r1, Option.bind_some]
        dsimp only
        cases hz : zok n (hDw U t n (zW (k + 1)) 3 (U.1 (5 + 5 * t) 3).toInt) (zW (k + 1)) with
        | false =>
          rw [if_pos (by rfl)]
          have pk : p (k + 1) = false := by rw [← hp]; unfold zp; rw [hz, Bool.and_false]
          exact ⟨(Int32.ofNat (zpc (zfi p k) + 1), Int32.ofNat (k + 1 + 1), V2), ⟨rfl, by dsimp only; rw [zfi_n2 pk], r2, r3⟩, rfl⟩
        | true =>
          rw [if_neg (by decide)]
          have pk : p (k + 1) = true := by rw [← hp]; unfold zp; rw [ha, hz]; rfl
          exact ⟨(Int32.ofNat (zpc (k + 1) + 1), Int32.ofNat (k + 1 + 1), V2), ⟨rfl, by dsimp only; rw [zfi_y hf pk], r2, r3⟩, rfl⟩
    · rw [if_pos (by rw [i32_le, ofNat_int (by omega), ofNat_int (by omega)]; omega)]
      exact ⟨(Int32.ofNat (zpc (zfi p k) + 1), Int32.ofNat (k + 1 + 1), Z), ⟨rfl, by dsimp only; rw [zfi_n1 hf], hS, hS2⟩, rfl⟩
  · rintro ⟨b, c, Z⟩ m ⟨rfl, rfl, hS, hS2⟩
    dsimp only at hS hS2 ⊢
    have e2 : Z.1 (5 + 5 * t) 2 = Int32.ofNat n := (hS.1.lo (by omega)).trans hT.1
    rw [f_76_36, f103_eq e2 hT.2.1 n12, if_pos (by rw [i32_le, ofNat_int (by omega), ofNat_int (by omega)]; omega)]
    exact ⟨Z, rfl, hS.1⟩
theorem st_room {U : sU} (h : Inv U) (x : Int32) : Two (f_143 x U) (f_251 x) := by
  have h0 := h
  obtain ⟨nT, nM, h⟩ := h
  have n8 := h.1.1.2.2.1
  by_cases hx : 0 ≤ x.toInt ∧ x.toInt < nT
  case neg => exact ref_to h0 (w := 1) (by decide) (by unfold f_143; rw [tat_no h hx]) (by unfold f_251; rw [if_pos (f178_no (ref_n0 (by decide) h) n8 hx)])
  obtain ⟨e1, e2, e3, e4, _⟩ := tat_yes h hx
  obtain ⟨n, hM⟩ := MT_of h e2
  have t8 := hM.1
  have i8 : ib x 8 := ib_int.mpr (by omega)
  by_cases h7 : U.1 (5 + 5 * x.toNatClampNeg) 7 = 0
  · refine ref_to h0 (w := 6) (by decide) (by unfold f_143; rw [e1]; dsimp only; rw [if_pos h7]) ?_
    unfold f_251
    rw [if_neg (f178_yes (ref_n0 (by decide) h) n8 hx), if_pos i8, f157_1 (by decide) (by decide), hM.2.2.2.2.2.2.2.1.1, if_pos h7]
  have h71 : U.1 (5 + 5 * x.toNatClampNeg) 7 = 1 := by
    rcases hM.2.2.2.2.2.2.2.1.2 with q | q
    · exact absurd q h7
    · exact q
  have fl := zfi_lt (p := zp U x.toNatClampNeg n 3 (U.1 (5 + 5 * x.toNatClampNeg) 3).toInt) hM.2.1.2.2.1
  have pl := zpc_le (zfi (zp U x.toNatClampNeg n 3 (U.1 (5 + 5 * x.toNatClampNeg) 3).toInt) (2 ^ (n - 1) - 1))
  refine two_i h0 (v := (zpc (zfi (zp U x.toNatClampNeg n 3 (U.1 (5 + 5 * x.toNatClampNeg) 3).toInt) (2 ^ (n - 1) - 1)) + 1 : Nat)) ?_ ?_
  · obtain ⟨V, v1, v2⟩ := room_c hM
    unfold f_143
    rw [e1]
    dsimp only
    rw [if_neg h7, v1]
    exact ⟨_, V, rfl, v2, ofNat_int (by omega)⟩
  · intro Y hY
    have hMY := MT_same hM hY
    obtain ⟨Z, z1, z2⟩ := finest_m hMY e4 (who := 3) (Or.inr ⟨Or.inr rfl, by rw [hY.lo (by omega)]; exact h71⟩)
    rw [zp_same hY hM.1, hY.lo (by omega : 5 + 5 * x.toNatClampNeg < 210)] at z1
    unfold f_251
    rw [if_neg (f178_yes (InvN_same hY h).1.2.1 n8 hx), if_pos i8, hMY.2.2.2.2.2.2.2.1.1, hY.lo (by omega : 5 + 5 * x.toNatClampNeg < 210), if_neg h7, z1, Option.bind_some]
    dsimp only
    rw [f214_eq (by omega), Option.bind_some, ofNat_succ]
    exact ⟨_, Z, rfl, z2, ofNat_int (by omega)⟩
